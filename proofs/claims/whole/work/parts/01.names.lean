-- ===== PART A: goes FIRST, ahead of the names: the tables' words, and 'selects' of the private methods out of them =====
/-- a private method of a class that the tables say can be made, by its rows of tables_1 -/
def lw_okq (q : MethodName × Nat) : Prop := (q.1.cls ≠ "java/lang/invoke/MethodHandle" ∧ q.1.cls ≠ "java/lang/invoke/VarHandle") ∧ Cond.instantiable q.1.cls q.2 ∈ tables_1 ∧ Cond.privateMethod q.1 ∈ tables_1 ∧ Cond.instanceMethod q.1 ∈ tables_1
theorem lw_p0 : lw_okq (⟨"ThrownOver", "refuse", "(I)I"⟩, 14) := ⟨⟨by decide +kernel, by decide +kernel⟩, List.mem_of_getElem? (i := 22) (by decide +kernel), List.mem_of_getElem? (i := 286) (by decide +kernel), List.mem_of_getElem? (i := 287) (by decide +kernel)⟩
theorem lw_p1 : lw_okq (⟨"ThrownOver$Text", "step", "()V"⟩, 9) := ⟨⟨by decide +kernel, by decide +kernel⟩, List.mem_of_getElem? (i := 80) (by decide +kernel), List.mem_of_getElem? (i := 348) (by decide +kernel), List.mem_of_getElem? (i := 349) (by decide +kernel)⟩
theorem lw_p2 : lw_okq (⟨"ThrownOver$Text", "byteAt", "(I)I"⟩, 9) := ⟨⟨by decide +kernel, by decide +kernel⟩, List.mem_of_getElem? (i := 80) (by decide +kernel), List.mem_of_getElem? (i := 352) (by decide +kernel), List.mem_of_getElem? (i := 353) (by decide +kernel)⟩
theorem lw_p3 : lw_okq (⟨"ThrownOver$Text", "takeWord", "()V"⟩, 9) := ⟨⟨by decide +kernel, by decide +kernel⟩, List.mem_of_getElem? (i := 80) (by decide +kernel), List.mem_of_getElem? (i := 359) (by decide +kernel), List.mem_of_getElem? (i := 360) (by decide +kernel)⟩
theorem lw_p4 : lw_okq (⟨"ThrownOver$Text", "spells", "(Ljava/lang/String;)Z"⟩, 9) := ⟨⟨by decide +kernel, by decide +kernel⟩, List.mem_of_getElem? (i := 80) (by decide +kernel), List.mem_of_getElem? (i := 364) (by decide +kernel), List.mem_of_getElem? (i := 365) (by decide +kernel)⟩
theorem lw_p5 : lw_okq (⟨"ThrownOver$Text", "takeFigures", "()V"⟩, 9) := ⟨⟨by decide +kernel, by decide +kernel⟩, List.mem_of_getElem? (i := 80) (by decide +kernel), List.mem_of_getElem? (i := 421) (by decide +kernel), List.mem_of_getElem? (i := 422) (by decide +kernel)⟩
theorem lw_p6 : lw_okq (⟨"ThrownOver$Text", "readItem", "(LThrownOver$Cargo;)V"⟩, 9) := ⟨⟨by decide +kernel, by decide +kernel⟩, List.mem_of_getElem? (i := 80) (by decide +kernel), List.mem_of_getElem? (i := 425) (by decide +kernel), List.mem_of_getElem? (i := 426) (by decide +kernel)⟩
theorem lw_p7 : lw_okq (⟨"ThrownOver$Text", "takeNumbers", "([I[I)Z"⟩, 9) := ⟨⟨by decide +kernel, by decide +kernel⟩, List.mem_of_getElem? (i := 80) (by decide +kernel), List.mem_of_getElem? (i := 431) (by decide +kernel), List.mem_of_getElem? (i := 432) (by decide +kernel)⟩
theorem lw_p8 : lw_okq (⟨"ThrownOver$Text", "takeOver", "(LThrownOver$Cargo;)V"⟩, 9) := ⟨⟨by decide +kernel, by decide +kernel⟩, List.mem_of_getElem? (i := 80) (by decide +kernel), List.mem_of_getElem? (i := 439) (by decide +kernel), List.mem_of_getElem? (i := 440) (by decide +kernel)⟩
theorem lw_p9 : lw_okq (⟨"ThrownOver$Text", "takeStop", "()V"⟩, 9) := ⟨⟨by decide +kernel, by decide +kernel⟩, List.mem_of_getElem? (i := 80) (by decide +kernel), List.mem_of_getElem? (i := 455) (by decide +kernel), List.mem_of_getElem? (i := 456) (by decide +kernel)⟩
theorem lw_p10 : lw_okq (⟨"ThrownOver$Bill", "kindOf", "(LThrownOver$Cargo;I)LThrownOver$PlainKind;"⟩, 5) := ⟨⟨by decide +kernel, by decide +kernel⟩, List.mem_of_getElem? (i := 116) (by decide +kernel), List.mem_of_getElem? (i := 473) (by decide +kernel), List.mem_of_getElem? (i := 474) (by decide +kernel)⟩
theorem lw_p11 : lw_okq (⟨"ThrownOver$Bill", "begin", "(LThrownOver$Cargo;I)V"⟩, 5) := ⟨⟨by decide +kernel, by decide +kernel⟩, List.mem_of_getElem? (i := 116) (by decide +kernel), List.mem_of_getElem? (i := 543) (by decide +kernel), List.mem_of_getElem? (i := 544) (by decide +kernel)⟩
theorem lw_p12 : lw_okq (⟨"ThrownOver$Bill", "enter", "(LThrownOver$Cargo;III)V"⟩, 5) := ⟨⟨by decide +kernel, by decide +kernel⟩, List.mem_of_getElem? (i := 116) (by decide +kernel), List.mem_of_getElem? (i := 547) (by decide +kernel), List.mem_of_getElem? (i := 548) (by decide +kernel)⟩
theorem lw_p13 : lw_okq (⟨"ThrownOver$LeastSearch", "pileUp", "(LThrownOver$Cargo;III)V"⟩, 8) := ⟨⟨by decide +kernel, by decide +kernel⟩, List.mem_of_getElem? (i := 183) (by decide +kernel), List.mem_of_getElem? (i := 612) (by decide +kernel), List.mem_of_getElem? (i := 613) (by decide +kernel)⟩
theorem lw_p14 : lw_okq (⟨"ThrownOver$LeastSearch", "lay", "(LThrownOver$Cargo;II)V"⟩, 8) := ⟨⟨by decide +kernel, by decide +kernel⟩, List.mem_of_getElem? (i := 183) (by decide +kernel), List.mem_of_getElem? (i := 616) (by decide +kernel), List.mem_of_getElem? (i := 617) (by decide +kernel)⟩
theorem lw_p15 : lw_okq (⟨"ThrownOver$LeastSearch", "choose", "(LThrownOver$Cargo;II)I"⟩, 8) := ⟨⟨by decide +kernel, by decide +kernel⟩, List.mem_of_getElem? (i := 183) (by decide +kernel), List.mem_of_getElem? (i := 623) (by decide +kernel), List.mem_of_getElem? (i := 624) (by decide +kernel)⟩
def lw_privs_1 : List (MethodName × Nat) := [(⟨"ThrownOver", "refuse", "(I)I"⟩, 14), (⟨"ThrownOver$Text", "step", "()V"⟩, 9), (⟨"ThrownOver$Text", "byteAt", "(I)I"⟩, 9), (⟨"ThrownOver$Text", "takeWord", "()V"⟩, 9), (⟨"ThrownOver$Text", "spells", "(Ljava/lang/String;)Z"⟩, 9), (⟨"ThrownOver$Text", "takeFigures", "()V"⟩, 9), (⟨"ThrownOver$Text", "readItem", "(LThrownOver$Cargo;)V"⟩, 9), (⟨"ThrownOver$Text", "takeNumbers", "([I[I)Z"⟩, 9), (⟨"ThrownOver$Text", "takeOver", "(LThrownOver$Cargo;)V"⟩, 9), (⟨"ThrownOver$Text", "takeStop", "()V"⟩, 9), (⟨"ThrownOver$Bill", "kindOf", "(LThrownOver$Cargo;I)LThrownOver$PlainKind;"⟩, 5), (⟨"ThrownOver$Bill", "begin", "(LThrownOver$Cargo;I)V"⟩, 5), (⟨"ThrownOver$Bill", "enter", "(LThrownOver$Cargo;III)V"⟩, 5), (⟨"ThrownOver$LeastSearch", "pileUp", "(LThrownOver$Cargo;III)V"⟩, 8), (⟨"ThrownOver$LeastSearch", "lay", "(LThrownOver$Cargo;II)V"⟩, 8), (⟨"ThrownOver$LeastSearch", "choose", "(LThrownOver$Cargo;II)I"⟩, 8)]
theorem lw_r1 : ∀ q ∈ lw_privs_1, lw_okq q := List.forall_mem_cons.mpr ⟨lw_p0, List.forall_mem_cons.mpr ⟨lw_p1, List.forall_mem_cons.mpr ⟨lw_p2, List.forall_mem_cons.mpr ⟨lw_p3, List.forall_mem_cons.mpr ⟨lw_p4, List.forall_mem_cons.mpr ⟨lw_p5, List.forall_mem_cons.mpr ⟨lw_p6, List.forall_mem_cons.mpr ⟨lw_p7, List.forall_mem_cons.mpr ⟨lw_p8, List.forall_mem_cons.mpr ⟨lw_p9, List.forall_mem_cons.mpr ⟨lw_p10, List.forall_mem_cons.mpr ⟨lw_p11, List.forall_mem_cons.mpr ⟨lw_p12, List.forall_mem_cons.mpr ⟨lw_p13, List.forall_mem_cons.mpr ⟨lw_p14, List.forall_mem_cons.mpr ⟨lw_p15, fun _ h => absurd h List.not_mem_nil⟩⟩⟩⟩⟩⟩⟩⟩⟩⟩⟩⟩⟩⟩⟩⟩
theorem lw_p16 : lw_okq (⟨"ThrownOver$LeastSearch", "consider", "(III)V"⟩, 8) := ⟨⟨by decide +kernel, by decide +kernel⟩, List.mem_of_getElem? (i := 183) (by decide +kernel), List.mem_of_getElem? (i := 628) (by decide +kernel), List.mem_of_getElem? (i := 629) (by decide +kernel)⟩
theorem lw_p17 : lw_okq (⟨"ThrownOver$LeastSearch", "keepIfBetter", "(III)V"⟩, 8) := ⟨⟨by decide +kernel, by decide +kernel⟩, List.mem_of_getElem? (i := 183) (by decide +kernel), List.mem_of_getElem? (i := 632) (by decide +kernel), List.mem_of_getElem? (i := 633) (by decide +kernel)⟩
theorem lw_p18 : lw_okq (⟨"ThrownOver$LeastSearch", "isBetter", "(III)Z"⟩, 8) := ⟨⟨by decide +kernel, by decide +kernel⟩, List.mem_of_getElem? (i := 183) (by decide +kernel), List.mem_of_getElem? (i := 636) (by decide +kernel), List.mem_of_getElem? (i := 637) (by decide +kernel)⟩
theorem lw_p19 : lw_okq (⟨"ThrownOver", "inOrder", "(II)I"⟩, 14) := ⟨⟨by decide +kernel, by decide +kernel⟩, List.mem_of_getElem? (i := 22) (by decide +kernel), List.mem_of_getElem? (i := 640) (by decide +kernel), List.mem_of_getElem? (i := 641) (by decide +kernel)⟩
theorem lw_p20 : lw_okq (⟨"ThrownOver$Cargo", "fitsAll", "(I)Z"⟩, 9) := ⟨⟨by decide +kernel, by decide +kernel⟩, List.mem_of_getElem? (i := 30) (by decide +kernel), List.mem_of_getElem? (i := 702) (by decide +kernel), List.mem_of_getElem? (i := 703) (by decide +kernel)⟩
theorem lw_p21 : lw_okq (⟨"ThrownOver", "howMany", "(I)I"⟩, 14) := ⟨⟨by decide +kernel, by decide +kernel⟩, List.mem_of_getElem? (i := 22) (by decide +kernel), List.mem_of_getElem? (i := 767) (by decide +kernel), List.mem_of_getElem? (i := 768) (by decide +kernel)⟩
theorem lw_p22 : lw_okq (⟨"ThrownOverModel", "begins", "(III)V"⟩, 15) := ⟨⟨by decide +kernel, by decide +kernel⟩, List.mem_of_getElem? (i := 778) (by decide +kernel), List.mem_of_getElem? (i := 784) (by decide +kernel), List.mem_of_getElem? (i := 785) (by decide +kernel)⟩
theorem lw_p23 : lw_okq (⟨"ThrownOverModel", "bad", "()I"⟩, 15) := ⟨⟨by decide +kernel, by decide +kernel⟩, List.mem_of_getElem? (i := 778) (by decide +kernel), List.mem_of_getElem? (i := 844) (by decide +kernel), List.mem_of_getElem? (i := 845) (by decide +kernel)⟩
theorem lw_p24 : lw_okq (⟨"ThrownOverModel", "full", "()I"⟩, 15) := ⟨⟨by decide +kernel, by decide +kernel⟩, List.mem_of_getElem? (i := 778) (by decide +kernel), List.mem_of_getElem? (i := 860) (by decide +kernel), List.mem_of_getElem? (i := 861) (by decide +kernel)⟩
theorem lw_p25 : lw_okq (⟨"ThrownOverModel", "adds", "(IIIIIII)I"⟩, 15) := ⟨⟨by decide +kernel, by decide +kernel⟩, List.mem_of_getElem? (i := 778) (by decide +kernel), List.mem_of_getElem? (i := 864) (by decide +kernel), List.mem_of_getElem? (i := 865) (by decide +kernel)⟩
theorem lw_p26 : lw_okq (⟨"ThrownOverModel", "isGoods", "(I)Z"⟩, 15) := ⟨⟨by decide +kernel, by decide +kernel⟩, List.mem_of_getElem? (i := 778) (by decide +kernel), List.mem_of_getElem? (i := 872) (by decide +kernel), List.mem_of_getElem? (i := 873) (by decide +kernel)⟩
theorem lw_p27 : lw_okq (⟨"ThrownOverModel", "token", "()V"⟩, 15) := ⟨⟨by decide +kernel, by decide +kernel⟩, List.mem_of_getElem? (i := 778) (by decide +kernel), List.mem_of_getElem? (i := 889) (by decide +kernel), List.mem_of_getElem? (i := 890) (by decide +kernel)⟩
theorem lw_p28 : lw_okq (⟨"ThrownOverModel", "byteAt", "(I)I"⟩, 15) := ⟨⟨by decide +kernel, by decide +kernel⟩, List.mem_of_getElem? (i := 778) (by decide +kernel), List.mem_of_getElem? (i := 893) (by decide +kernel), List.mem_of_getElem? (i := 894) (by decide +kernel)⟩
theorem lw_p29 : lw_okq (⟨"ThrownOverModel", "takesItem", "(I)Z"⟩, 15) := ⟨⟨by decide +kernel, by decide +kernel⟩, List.mem_of_getElem? (i := 778) (by decide +kernel), List.mem_of_getElem? (i := 901) (by decide +kernel), List.mem_of_getElem? (i := 902) (by decide +kernel)⟩
theorem lw_p30 : lw_okq (⟨"ThrownOverModel", "wordNow", "()I"⟩, 15) := ⟨⟨by decide +kernel, by decide +kernel⟩, List.mem_of_getElem? (i := 778) (by decide +kernel), List.mem_of_getElem? (i := 905) (by decide +kernel), List.mem_of_getElem? (i := 906) (by decide +kernel)⟩
theorem lw_p31 : lw_okq (⟨"ThrownOverModel", "isNamed", "(IIIII)Z"⟩, 15) := ⟨⟨by decide +kernel, by decide +kernel⟩, List.mem_of_getElem? (i := 778) (by decide +kernel), List.mem_of_getElem? (i := 909) (by decide +kernel), List.mem_of_getElem? (i := 910) (by decide +kernel)⟩
def lw_privs_2 : List (MethodName × Nat) := [(⟨"ThrownOver$LeastSearch", "consider", "(III)V"⟩, 8), (⟨"ThrownOver$LeastSearch", "keepIfBetter", "(III)V"⟩, 8), (⟨"ThrownOver$LeastSearch", "isBetter", "(III)Z"⟩, 8), (⟨"ThrownOver", "inOrder", "(II)I"⟩, 14), (⟨"ThrownOver$Cargo", "fitsAll", "(I)Z"⟩, 9), (⟨"ThrownOver", "howMany", "(I)I"⟩, 14), (⟨"ThrownOverModel", "begins", "(III)V"⟩, 15), (⟨"ThrownOverModel", "bad", "()I"⟩, 15), (⟨"ThrownOverModel", "full", "()I"⟩, 15), (⟨"ThrownOverModel", "adds", "(IIIIIII)I"⟩, 15), (⟨"ThrownOverModel", "isGoods", "(I)Z"⟩, 15), (⟨"ThrownOverModel", "token", "()V"⟩, 15), (⟨"ThrownOverModel", "byteAt", "(I)I"⟩, 15), (⟨"ThrownOverModel", "takesItem", "(I)Z"⟩, 15), (⟨"ThrownOverModel", "wordNow", "()I"⟩, 15), (⟨"ThrownOverModel", "isNamed", "(IIIII)Z"⟩, 15)]
theorem lw_r2 : ∀ q ∈ lw_privs_2, lw_okq q := List.forall_mem_cons.mpr ⟨lw_p16, List.forall_mem_cons.mpr ⟨lw_p17, List.forall_mem_cons.mpr ⟨lw_p18, List.forall_mem_cons.mpr ⟨lw_p19, List.forall_mem_cons.mpr ⟨lw_p20, List.forall_mem_cons.mpr ⟨lw_p21, List.forall_mem_cons.mpr ⟨lw_p22, List.forall_mem_cons.mpr ⟨lw_p23, List.forall_mem_cons.mpr ⟨lw_p24, List.forall_mem_cons.mpr ⟨lw_p25, List.forall_mem_cons.mpr ⟨lw_p26, List.forall_mem_cons.mpr ⟨lw_p27, List.forall_mem_cons.mpr ⟨lw_p28, List.forall_mem_cons.mpr ⟨lw_p29, List.forall_mem_cons.mpr ⟨lw_p30, List.forall_mem_cons.mpr ⟨lw_p31, fun _ h => absurd h List.not_mem_nil⟩⟩⟩⟩⟩⟩⟩⟩⟩⟩⟩⟩⟩⟩⟩⟩
theorem lw_p32 : lw_okq (⟨"ThrownOverModel", "takesShip", "()Z"⟩, 15) := ⟨⟨by decide +kernel, by decide +kernel⟩, List.mem_of_getElem? (i := 778) (by decide +kernel), List.mem_of_getElem? (i := 913) (by decide +kernel), List.mem_of_getElem? (i := 914) (by decide +kernel)⟩
theorem lw_p33 : lw_okq (⟨"ThrownOverModel", "takes", "(III)Z"⟩, 15) := ⟨⟨by decide +kernel, by decide +kernel⟩, List.mem_of_getElem? (i := 778) (by decide +kernel), List.mem_of_getElem? (i := 917) (by decide +kernel), List.mem_of_getElem? (i := 918) (by decide +kernel)⟩
theorem lw_p34 : lw_okq (⟨"ThrownOverModel", "takesGoods", "()Z"⟩, 15) := ⟨⟨by decide +kernel, by decide +kernel⟩, List.mem_of_getElem? (i := 778) (by decide +kernel), List.mem_of_getElem? (i := 921) (by decide +kernel), List.mem_of_getElem? (i := 922) (by decide +kernel)⟩
theorem lw_p35 : lw_okq (⟨"ThrownOverModel", "takesOver", "()Z"⟩, 15) := ⟨⟨by decide +kernel, by decide +kernel⟩, List.mem_of_getElem? (i := 778) (by decide +kernel), List.mem_of_getElem? (i := 925) (by decide +kernel), List.mem_of_getElem? (i := 926) (by decide +kernel)⟩
theorem lw_p36 : lw_okq (⟨"ThrownOverModel", "isTop", "(IIIII)Z"⟩, 15) := ⟨⟨by decide +kernel, by decide +kernel⟩, List.mem_of_getElem? (i := 778) (by decide +kernel), List.mem_of_getElem? (i := 929) (by decide +kernel), List.mem_of_getElem? (i := 930) (by decide +kernel)⟩
theorem lw_p37 : lw_okq (⟨"ThrownOverModel", "copy", "(II)V"⟩, 15) := ⟨⟨by decide +kernel, by decide +kernel⟩, List.mem_of_getElem? (i := 778) (by decide +kernel), List.mem_of_getElem? (i := 936) (by decide +kernel), List.mem_of_getElem? (i := 937) (by decide +kernel)⟩
theorem lw_p38 : lw_okq (⟨"ThrownOverModel", "isFree", "(I)Z"⟩, 15) := ⟨⟨by decide +kernel, by decide +kernel⟩, List.mem_of_getElem? (i := 778) (by decide +kernel), List.mem_of_getElem? (i := 944) (by decide +kernel), List.mem_of_getElem? (i := 945) (by decide +kernel)⟩
theorem lw_p39 : lw_okq (⟨"ThrownOverModel", "no", "()I"⟩, 15) := ⟨⟨by decide +kernel, by decide +kernel⟩, List.mem_of_getElem? (i := 778) (by decide +kernel), List.mem_of_getElem? (i := 948) (by decide +kernel), List.mem_of_getElem? (i := 949) (by decide +kernel)⟩
theorem lw_p40 : lw_okq (⟨"ThrownOverModel", "madeGood", "(I)I"⟩, 15) := ⟨⟨by decide +kernel, by decide +kernel⟩, List.mem_of_getElem? (i := 778) (by decide +kernel), List.mem_of_getElem? (i := 952) (by decide +kernel), List.mem_of_getElem? (i := 953) (by decide +kernel)⟩
theorem lw_p41 : lw_okq (⟨"ThrownOverModel", "isAlive", "(II)Z"⟩, 15) := ⟨⟨by decide +kernel, by decide +kernel⟩, List.mem_of_getElem? (i := 778) (by decide +kernel), List.mem_of_getElem? (i := 978) (by decide +kernel), List.mem_of_getElem? (i := 979) (by decide +kernel)⟩
theorem lw_p42 : lw_okq (⟨"ThrownOverModel", "heavyOf", "(I)I"⟩, 15) := ⟨⟨by decide +kernel, by decide +kernel⟩, List.mem_of_getElem? (i := 778) (by decide +kernel), List.mem_of_getElem? (i := 982) (by decide +kernel), List.mem_of_getElem? (i := 983) (by decide +kernel)⟩
theorem lw_p43 : lw_okq (⟨"ThrownOverModel", "lossOf", "(I)I"⟩, 15) := ⟨⟨by decide +kernel, by decide +kernel⟩, List.mem_of_getElem? (i := 778) (by decide +kernel), List.mem_of_getElem? (i := 990) (by decide +kernel), List.mem_of_getElem? (i := 991) (by decide +kernel)⟩
theorem lw_p44 : lw_okq (⟨"ThrownOverModel", "bears", "(I)I"⟩, 15) := ⟨⟨by decide +kernel, by decide +kernel⟩, List.mem_of_getElem? (i := 778) (by decide +kernel), List.mem_of_getElem? (i := 994) (by decide +kernel), List.mem_of_getElem? (i := 995) (by decide +kernel)⟩
theorem lw_p45 : lw_okq (⟨"ThrownOverModel", "worthOf", "(I)I"⟩, 15) := ⟨⟨by decide +kernel, by decide +kernel⟩, List.mem_of_getElem? (i := 778) (by decide +kernel), List.mem_of_getElem? (i := 1001) (by decide +kernel), List.mem_of_getElem? (i := 1002) (by decide +kernel)⟩
theorem lw_p46 : lw_okq (⟨"ThrownOverModel", "whole", "()I"⟩, 15) := ⟨⟨by decide +kernel, by decide +kernel⟩, List.mem_of_getElem? (i := 778) (by decide +kernel), List.mem_of_getElem? (i := 1010) (by decide +kernel), List.mem_of_getElem? (i := 1011) (by decide +kernel)⟩
theorem lw_p47 : lw_okq (⟨"ThrownOverModel", "tellsPart", "(JJ)I"⟩, 15) := ⟨⟨by decide +kernel, by decide +kernel⟩, List.mem_of_getElem? (i := 778) (by decide +kernel), List.mem_of_getElem? (i := 1014) (by decide +kernel), List.mem_of_getElem? (i := 1015) (by decide +kernel)⟩
def lw_privs_3 : List (MethodName × Nat) := [(⟨"ThrownOverModel", "takesShip", "()Z"⟩, 15), (⟨"ThrownOverModel", "takes", "(III)Z"⟩, 15), (⟨"ThrownOverModel", "takesGoods", "()Z"⟩, 15), (⟨"ThrownOverModel", "takesOver", "()Z"⟩, 15), (⟨"ThrownOverModel", "isTop", "(IIIII)Z"⟩, 15), (⟨"ThrownOverModel", "copy", "(II)V"⟩, 15), (⟨"ThrownOverModel", "isFree", "(I)Z"⟩, 15), (⟨"ThrownOverModel", "no", "()I"⟩, 15), (⟨"ThrownOverModel", "madeGood", "(I)I"⟩, 15), (⟨"ThrownOverModel", "isAlive", "(II)Z"⟩, 15), (⟨"ThrownOverModel", "heavyOf", "(I)I"⟩, 15), (⟨"ThrownOverModel", "lossOf", "(I)I"⟩, 15), (⟨"ThrownOverModel", "bears", "(I)I"⟩, 15), (⟨"ThrownOverModel", "worthOf", "(I)I"⟩, 15), (⟨"ThrownOverModel", "whole", "()I"⟩, 15), (⟨"ThrownOverModel", "tellsPart", "(JJ)I"⟩, 15)]
theorem lw_r3 : ∀ q ∈ lw_privs_3, lw_okq q := List.forall_mem_cons.mpr ⟨lw_p32, List.forall_mem_cons.mpr ⟨lw_p33, List.forall_mem_cons.mpr ⟨lw_p34, List.forall_mem_cons.mpr ⟨lw_p35, List.forall_mem_cons.mpr ⟨lw_p36, List.forall_mem_cons.mpr ⟨lw_p37, List.forall_mem_cons.mpr ⟨lw_p38, List.forall_mem_cons.mpr ⟨lw_p39, List.forall_mem_cons.mpr ⟨lw_p40, List.forall_mem_cons.mpr ⟨lw_p41, List.forall_mem_cons.mpr ⟨lw_p42, List.forall_mem_cons.mpr ⟨lw_p43, List.forall_mem_cons.mpr ⟨lw_p44, List.forall_mem_cons.mpr ⟨lw_p45, List.forall_mem_cons.mpr ⟨lw_p46, List.forall_mem_cons.mpr ⟨lw_p47, fun _ h => absurd h List.not_mem_nil⟩⟩⟩⟩⟩⟩⟩⟩⟩⟩⟩⟩⟩⟩⟩⟩
theorem lw_p48 : lw_okq (⟨"ThrownOverModel", "netOf", "(I)J"⟩, 15) := ⟨⟨by decide +kernel, by decide +kernel⟩, List.mem_of_getElem? (i := 778) (by decide +kernel), List.mem_of_getElem? (i := 1022) (by decide +kernel), List.mem_of_getElem? (i := 1023) (by decide +kernel)⟩
theorem lw_p49 : lw_okq (⟨"ThrownOverModel", "badAs", "(I)I"⟩, 15) := ⟨⟨by decide +kernel, by decide +kernel⟩, List.mem_of_getElem? (i := 778) (by decide +kernel), List.mem_of_getElem? (i := 1030) (by decide +kernel), List.mem_of_getElem? (i := 1031) (by decide +kernel)⟩
theorem lw_p50 : lw_okq (⟨"ThrownOverModel", "findLeast", "(IIII)V"⟩, 15) := ⟨⟨by decide +kernel, by decide +kernel⟩, List.mem_of_getElem? (i := 778) (by decide +kernel), List.mem_of_getElem? (i := 1034) (by decide +kernel), List.mem_of_getElem? (i := 1035) (by decide +kernel)⟩
theorem lw_p51 : lw_okq (⟨"ThrownOverModel", "canGo", "(IIII)Z"⟩, 15) := ⟨⟨by decide +kernel, by decide +kernel⟩, List.mem_of_getElem? (i := 778) (by decide +kernel), List.mem_of_getElem? (i := 1039) (by decide +kernel), List.mem_of_getElem? (i := 1040) (by decide +kernel)⟩
theorem lw_p52 : lw_okq (⟨"ThrownOverModel", "thrownSet", "()I"⟩, 15) := ⟨⟨by decide +kernel, by decide +kernel⟩, List.mem_of_getElem? (i := 778) (by decide +kernel), List.mem_of_getElem? (i := 1047) (by decide +kernel), List.mem_of_getElem? (i := 1048) (by decide +kernel)⟩
theorem lw_p53 : lw_okq (⟨"ThrownOverModel", "countOf", "(I)I"⟩, 15) := ⟨⟨by decide +kernel, by decide +kernel⟩, List.mem_of_getElem? (i := 778) (by decide +kernel), List.mem_of_getElem? (i := 1126) (by decide +kernel), List.mem_of_getElem? (i := 1127) (by decide +kernel)⟩
theorem lw_p54 : lw_okq (⟨"ThrownOverModel", "mix", "(J)V"⟩, 15) := ⟨⟨by decide +kernel, by decide +kernel⟩, List.mem_of_getElem? (i := 778) (by decide +kernel), List.mem_of_getElem? (i := 1135) (by decide +kernel), List.mem_of_getElem? (i := 1136) (by decide +kernel)⟩
def lw_privs_4 : List (MethodName × Nat) := [(⟨"ThrownOverModel", "netOf", "(I)J"⟩, 15), (⟨"ThrownOverModel", "badAs", "(I)I"⟩, 15), (⟨"ThrownOverModel", "findLeast", "(IIII)V"⟩, 15), (⟨"ThrownOverModel", "canGo", "(IIII)Z"⟩, 15), (⟨"ThrownOverModel", "thrownSet", "()I"⟩, 15), (⟨"ThrownOverModel", "countOf", "(I)I"⟩, 15), (⟨"ThrownOverModel", "mix", "(J)V"⟩, 15)]
theorem lw_r4 : ∀ q ∈ lw_privs_4, lw_okq q := List.forall_mem_cons.mpr ⟨lw_p48, List.forall_mem_cons.mpr ⟨lw_p49, List.forall_mem_cons.mpr ⟨lw_p50, List.forall_mem_cons.mpr ⟨lw_p51, List.forall_mem_cons.mpr ⟨lw_p52, List.forall_mem_cons.mpr ⟨lw_p53, List.forall_mem_cons.mpr ⟨lw_p54, fun _ h => absurd h List.not_mem_nil⟩⟩⟩⟩⟩⟩⟩
def lw_privs : List (MethodName × Nat) := lw_privs_1 ++ (lw_privs_2 ++ (lw_privs_3 ++ (lw_privs_4)))
def lw_tbl : List Cond := k2_sels lw_privs ++ tables_1
theorem lw_privs_ok : ∀ q ∈ lw_privs, lw_okq q := by
  show ∀ q ∈ lw_privs_1 ++ (lw_privs_2 ++ (lw_privs_3 ++ (lw_privs_4))), lw_okq q
  exact List.forall_mem_append.mpr ⟨lw_r1, List.forall_mem_append.mpr ⟨lw_r2, List.forall_mem_append.mpr ⟨lw_r3, lw_r4⟩⟩⟩
-- ===== end of PART A; then your names; then what follows =====
def RX0 : String := "ThrownOver$Bill"
def TX0 : u_T := fun k => match k with
  | 0 => ("ThrownOver$Bill", "kinds", "[LThrownOver$PlainKind;", true)
  | 1 => ("ThrownOver$Bill", "loss", "I", false)
  | 2 => ("ThrownOver$Bill", "whole", "I", false)
  | 3 => ("ThrownOver$Bill", "own", "I", false)
  | _ => ("ThrownOver$Bill", "ownMadeGood", "I", false)
def tyX0 : Nat → FieldType := fun k => match k with
  | 0 => .array (.object "ThrownOver$PlainKind")
  | 1 => .int
  | 2 => .int
  | 3 => .int
  | _ => .int
abbrev wsX00 : List Cond := u_ws RX0 TX0 5
theorem nmX0 : ∀ a, a < 5 → ∀ b, b < 5 → a ≠ b → (TX0 a).2.1 ≠ (TX0 b).2.1 := by decide +kernel
theorem tyX0_ok : ∀ k, k < 5 → parseFieldDescriptor (TX0 k).2.2.1 = some (tyX0 k) := by decide +kernel
abbrev cX0_init : ByteArray := prog_2_method_1_code
def yX0_init : MethodName := ⟨RX0, "<init>", "()V"⟩
abbrev cX0_reckon : ByteArray := prog_2_method_2_code
def yX0_reckon : MethodName := ⟨RX0, "reckon", "(LThrownOver$Cargo;I)V"⟩
abbrev cX0_reckonMarked : ByteArray := prog_2_method_3_code
def yX0_reckonMarked : MethodName := ⟨RX0, "reckonMarked", "(LThrownOver$Cargo;II)V"⟩
abbrev cX0_begin : ByteArray := prog_2_method_4_code
def yX0_begin : MethodName := ⟨RX0, "begin", "(LThrownOver$Cargo;I)V"⟩
abbrev cX0_enter : ByteArray := prog_2_method_5_code
def yX0_enter : MethodName := ⟨RX0, "enter", "(LThrownOver$Cargo;III)V"⟩
abbrev cX0_kindOf : ByteArray := prog_2_method_6_code
def yX0_kindOf : MethodName := ⟨RX0, "kindOf", "(LThrownOver$Cargo;I)LThrownOver$PlainKind;"⟩
abbrev cX0_madeGoodOf : ByteArray := prog_2_method_7_code
def yX0_madeGoodOf : MethodName := ⟨RX0, "madeGoodOf", "(LThrownOver$Cargo;I)I"⟩
abbrev cX0_below : ByteArray := prog_2_method_8_code
def yX0_below : MethodName := ⟨RX0, "below", "()J"⟩
abbrev cX0_shareAbove : ByteArray := prog_2_method_9_code
def yX0_shareAbove : MethodName := ⟨RX0, "shareAbove", "()J"⟩
abbrev cX0_netAbove : ByteArray := prog_2_method_10_code
def yX0_netAbove : MethodName := ⟨RX0, "netAbove", "()J"⟩
def RX1 : String := "ThrownOver$Cargo"
def TX1 : u_T := fun k => match k with
  | 0 => ("ThrownOver$Cargo", "shipWorth", "I", false)
  | 1 => ("ThrownOver$Cargo", "carries", "I", false)
  | 2 => ("ThrownOver$Cargo", "size", "I", false)
  | 3 => ("ThrownOver$Cargo", "aboard", "I", false)
  | 4 => ("ThrownOver$Cargo", "undoable", "I", false)
  | 5 => ("ThrownOver$Cargo", "sightings", "I", false)
  | 6 => ("ThrownOver$Cargo", "facts", "[I", true)
  | 7 => ("ThrownOver$Cargo", "heaved", "[I", true)
  | _ => ("ThrownOver$Cargo", "sights", "[I", true)
def tyX1 : Nat → FieldType := fun k => match k with
  | 0 => .int
  | 1 => .int
  | 2 => .int
  | 3 => .int
  | 4 => .int
  | 5 => .int
  | 6 => .array .int
  | 7 => .array .int
  | _ => .array .int
abbrev wsX10 : List Cond := u_ws RX1 TX1 9
theorem nmX1 : ∀ a, a < 9 → ∀ b, b < 9 → a ≠ b → (TX1 a).2.1 ≠ (TX1 b).2.1 := by decide +kernel
theorem tyX1_ok : ∀ k, k < 9 → parseFieldDescriptor (TX1 k).2.2.1 = some (tyX1 k) := by decide +kernel
abbrev cX1_init : ByteArray := prog_3_method_1_code
def yX1_init : MethodName := ⟨RX1, "<init>", "()V"⟩
abbrev cX1_restart : ByteArray := prog_3_method_2_code
def yX1_restart : MethodName := ⟨RX1, "restart", "(II)V"⟩
abbrev cX1_become : ByteArray := prog_3_method_3_code
def yX1_become : MethodName := ⟨RX1, "become", "(LThrownOver$Cargo;)V"⟩
abbrev cX1_has : ByteArray := prog_3_method_4_code
def yX1_has : MethodName := ⟨RX1, "has", "(I)Z"⟩
abbrev cX1_fact : ByteArray := prog_3_method_5_code
def yX1_fact : MethodName := ⟨RX1, "fact", "(II)I"⟩
abbrev cX1_sighted : ByteArray := prog_3_method_6_code
def yX1_sighted : MethodName := ⟨RX1, "sighted", "(II)I"⟩
abbrev cX1_load : ByteArray := prog_3_method_7_code
def yX1_load : MethodName := ⟨RX1, "load", "([I)I"⟩
abbrev cX1_retell : ByteArray := prog_3_method_8_code
def yX1_retell : MethodName := ⟨RX1, "retell", "(II)V"⟩
abbrev cX1_sight : ByteArray := prog_3_method_9_code
def yX1_sight : MethodName := ⟨RX1, "sight", "([I)Z"⟩
abbrev cX1_heave : ByteArray := prog_3_method_10_code
def yX1_heave : MethodName := ⟨RX1, "heave", "(I)V"⟩
abbrev cX1_takeBack : ByteArray := prog_3_method_11_code
def yX1_takeBack : MethodName := ⟨RX1, "takeBack", "()Z"⟩
abbrev cX1_isTop : ByteArray := prog_3_method_12_code
def yX1_isTop : MethodName := ⟨RX1, "isTop", "(II)Z"⟩
abbrev cX1_firstTop : ByteArray := prog_3_method_13_code
def yX1_firstTop : MethodName := ⟨RX1, "firstTop", "(II)I"⟩
abbrev cX1_total : ByteArray := prog_3_method_14_code
def yX1_total : MethodName := ⟨RX1, "total", "(II)I"⟩
abbrev cX1_outlives : ByteArray := prog_3_method_15_code
def yX1_outlives : MethodName := ⟨RX1, "outlives", "(II)Z"⟩
abbrev cX1_gone : ByteArray := prog_3_method_16_code
def yX1_gone : MethodName := ⟨RX1, "gone", "()I"⟩
abbrev cX1_fitting : ByteArray := prog_3_method_17_code
def yX1_fitting : MethodName := ⟨RX1, "fitting", "()I"⟩
abbrev cX1_fitsAll : ByteArray := prog_3_method_18_code
def yX1_fitsAll : MethodName := ⟨RX1, "fitsAll", "(I)Z"⟩
abbrev cX1_countWith : ByteArray := prog_3_method_19_code
def yX1_countWith : MethodName := ⟨RX1, "countWith", "(III)I"⟩
def RX2 : String := "ThrownOver$DeckKind"
def TX2 : u_T := fun k => match k with
  | _ => ("", "", "", false)
def tyX2 : Nat → FieldType := fun k => match k with
  | _ => .int
abbrev wsX20 : List Cond := u_ws RX2 TX2 0
theorem nmX2 : ∀ a, a < 0 → ∀ b, b < 0 → a ≠ b → (TX2 a).2.1 ≠ (TX2 b).2.1 := by decide +kernel
theorem tyX2_ok : ∀ k, k < 0 → parseFieldDescriptor (TX2 k).2.2.1 = some (tyX2 k) := by decide +kernel
abbrev cX2_init : ByteArray := prog_4_method_1_code
def yX2_init : MethodName := ⟨RX2, "<init>", "()V"⟩
abbrev cX2_madeGood : ByteArray := prog_4_method_2_code
def yX2_madeGood : MethodName := ⟨RX2, "madeGood", "(I)I"⟩
def RX3 : String := "ThrownOver$Fraction"
def TX3 : u_T := fun k => match k with
  | 0 => ("ThrownOver$Fraction", "above", "J", false)
  | _ => ("ThrownOver$Fraction", "below", "J", false)
def tyX3 : Nat → FieldType := fun k => match k with
  | 0 => .long
  | _ => .long
abbrev wsX30 : List Cond := u_ws RX3 TX3 2
theorem nmX3 : ∀ a, a < 2 → ∀ b, b < 2 → a ≠ b → (TX3 a).2.1 ≠ (TX3 b).2.1 := by decide +kernel
theorem tyX3_ok : ∀ k, k < 2 → parseFieldDescriptor (TX3 k).2.2.1 = some (tyX3 k) := by decide +kernel
abbrev cX3_init : ByteArray := prog_5_method_1_code
def yX3_init : MethodName := ⟨RX3, "<init>", "()V"⟩
abbrev cX3_become : ByteArray := prog_5_method_2_code
def yX3_become : MethodName := ⟨RX3, "become", "(JJ)V"⟩
abbrev cX3_greatestCommon : ByteArray := prog_5_method_3_code
def yX3_greatestCommon : MethodName := ⟨RX3, "greatestCommon", "(JJ)J"⟩
def RX4 : String := "ThrownOver$HabitKind"
def TX4 : u_T := fun k => match k with
  | _ => ("", "", "", false)
def tyX4 : Nat → FieldType := fun k => match k with
  | _ => .int
abbrev wsX40 : List Cond := u_ws RX4 TX4 0
theorem nmX4 : ∀ a, a < 0 → ∀ b, b < 0 → a ≠ b → (TX4 a).2.1 ≠ (TX4 b).2.1 := by decide +kernel
theorem tyX4_ok : ∀ k, k < 0 → parseFieldDescriptor (TX4 k).2.2.1 = some (tyX4 k) := by decide +kernel
abbrev cX4_init : ByteArray := prog_6_method_1_code
def yX4_init : MethodName := ⟨RX4, "<init>", "()V"⟩
abbrev cX4_madeGood : ByteArray := prog_6_method_2_code
def yX4_madeGood : MethodName := ⟨RX4, "madeGood", "(I)I"⟩
abbrev cX4_bears : ByteArray := prog_6_method_3_code
def yX4_bears : MethodName := ⟨RX4, "bears", "(I)I"⟩
def RX5 : String := "ThrownOver$JewelKind"
def TX5 : u_T := fun k => match k with
  | _ => ("", "", "", false)
def tyX5 : Nat → FieldType := fun k => match k with
  | _ => .int
abbrev wsX50 : List Cond := u_ws RX5 TX5 0
theorem nmX5 : ∀ a, a < 0 → ∀ b, b < 0 → a ≠ b → (TX5 a).2.1 ≠ (TX5 b).2.1 := by decide +kernel
theorem tyX5_ok : ∀ k, k < 0 → parseFieldDescriptor (TX5 k).2.2.1 = some (tyX5 k) := by decide +kernel
abbrev cX5_init : ByteArray := prog_7_method_1_code
def yX5_init : MethodName := ⟨RX5, "<init>", "()V"⟩
abbrev cX5_bears : ByteArray := prog_7_method_2_code
def yX5_bears : MethodName := ⟨RX5, "bears", "(I)I"⟩
def RX6 : String := "ThrownOver$LeastSearch"
def TX6 : u_T := fun k => match k with
  | 0 => ("ThrownOver$LeastSearch", "height", "[I", true)
  | 1 => ("ThrownOver$LeastSearch", "bits", "[I", true)
  | 2 => ("ThrownOver$LeastSearch", "heavy", "[I", true)
  | 3 => ("ThrownOver$LeastSearch", "worth", "[I", true)
  | 4 => ("ThrownOver$LeastSearch", "toShed", "I", false)
  | 5 => ("ThrownOver$LeastSearch", "bestBits", "I", false)
  | 6 => ("ThrownOver$LeastSearch", "bestCount", "I", false)
  | _ => ("ThrownOver$LeastSearch", "bestWorth", "I", false)
def tyX6 : Nat → FieldType := fun k => match k with
  | 0 => .array .int
  | 1 => .array .int
  | 2 => .array .int
  | 3 => .array .int
  | 4 => .int
  | 5 => .int
  | 6 => .int
  | _ => .int
abbrev wsX60 : List Cond := u_ws RX6 TX6 8
theorem nmX6 : ∀ a, a < 8 → ∀ b, b < 8 → a ≠ b → (TX6 a).2.1 ≠ (TX6 b).2.1 := by decide +kernel
theorem tyX6_ok : ∀ k, k < 8 → parseFieldDescriptor (TX6 k).2.2.1 = some (tyX6 k) := by decide +kernel
abbrev cX6_init : ByteArray := prog_8_method_1_code
def yX6_init : MethodName := ⟨RX6, "<init>", "()V"⟩
abbrev cX6_find : ByteArray := prog_8_method_2_code
def yX6_find : MethodName := ⟨RX6, "find", "(LThrownOver$Cargo;II)I"⟩
abbrev cX6_findStowed : ByteArray := prog_8_method_3_code
def yX6_findStowed : MethodName := ⟨RX6, "findStowed", "(LThrownOver$Cargo;III)I"⟩
abbrev cX6_pileUp : ByteArray := prog_8_method_4_code
def yX6_pileUp : MethodName := ⟨RX6, "pileUp", "(LThrownOver$Cargo;III)V"⟩
abbrev cX6_lay : ByteArray := prog_8_method_5_code
def yX6_lay : MethodName := ⟨RX6, "lay", "(LThrownOver$Cargo;II)V"⟩
abbrev cX6_choose : ByteArray := prog_8_method_6_code
def yX6_choose : MethodName := ⟨RX6, "choose", "(LThrownOver$Cargo;II)I"⟩
abbrev cX6_consider : ByteArray := prog_8_method_7_code
def yX6_consider : MethodName := ⟨RX6, "consider", "(III)V"⟩
abbrev cX6_keepIfBetter : ByteArray := prog_8_method_8_code
def yX6_keepIfBetter : MethodName := ⟨RX6, "keepIfBetter", "(III)V"⟩
abbrev cX6_isBetter : ByteArray := prog_8_method_9_code
def yX6_isBetter : MethodName := ⟨RX6, "isBetter", "(III)Z"⟩
def RX7 : String := "ThrownOver$MastKind"
def TX7 : u_T := fun k => match k with
  | _ => ("", "", "", false)
def tyX7 : Nat → FieldType := fun k => match k with
  | _ => .int
abbrev wsX70 : List Cond := u_ws RX7 TX7 0
theorem nmX7 : ∀ a, a < 0 → ∀ b, b < 0 → a ≠ b → (TX7 a).2.1 ≠ (TX7 b).2.1 := by decide +kernel
theorem tyX7_ok : ∀ k, k < 0 → parseFieldDescriptor (TX7 k).2.2.1 = some (tyX7 k) := by decide +kernel
abbrev cX7_init : ByteArray := prog_9_method_1_code
def yX7_init : MethodName := ⟨RX7, "<init>", "()V"⟩
abbrev cX7_madeGood : ByteArray := prog_9_method_2_code
def yX7_madeGood : MethodName := ⟨RX7, "madeGood", "(I)I"⟩
abbrev cX7_bears : ByteArray := prog_9_method_3_code
def yX7_bears : MethodName := ⟨RX7, "bears", "(I)I"⟩
def RX8 : String := "ThrownOver$PlainKind"
def TX8 : u_T := fun k => match k with
  | _ => ("", "", "", false)
def tyX8 : Nat → FieldType := fun k => match k with
  | _ => .int
abbrev wsX80 : List Cond := u_ws RX8 TX8 0
theorem nmX8 : ∀ a, a < 0 → ∀ b, b < 0 → a ≠ b → (TX8 a).2.1 ≠ (TX8 b).2.1 := by decide +kernel
theorem tyX8_ok : ∀ k, k < 0 → parseFieldDescriptor (TX8 k).2.2.1 = some (tyX8 k) := by decide +kernel
abbrev cX8_init : ByteArray := prog_10_method_1_code
def yX8_init : MethodName := ⟨RX8, "<init>", "()V"⟩
abbrev cX8_madeGood : ByteArray := prog_10_method_2_code
def yX8_madeGood : MethodName := ⟨RX8, "madeGood", "(I)I"⟩
abbrev cX8_bears : ByteArray := prog_10_method_3_code
def yX8_bears : MethodName := ⟨RX8, "bears", "(I)I"⟩
def RX9 : String := "ThrownOver$SpoiledKind"
def TX9 : u_T := fun k => match k with
  | _ => ("", "", "", false)
def tyX9 : Nat → FieldType := fun k => match k with
  | _ => .int
abbrev wsX90 : List Cond := u_ws RX9 TX9 0
theorem nmX9 : ∀ a, a < 0 → ∀ b, b < 0 → a ≠ b → (TX9 a).2.1 ≠ (TX9 b).2.1 := by decide +kernel
theorem tyX9_ok : ∀ k, k < 0 → parseFieldDescriptor (TX9 k).2.2.1 = some (tyX9 k) := by decide +kernel
abbrev cX9_init : ByteArray := prog_11_method_1_code
def yX9_init : MethodName := ⟨RX9, "<init>", "()V"⟩
abbrev cX9_madeGood : ByteArray := prog_11_method_2_code
def yX9_madeGood : MethodName := ⟨RX9, "madeGood", "(I)I"⟩
def RX10 : String := "ThrownOver$Text"
def TX10 : u_T := fun k => match k with
  | 0 => ("ThrownOver$Text", "bytes", "[B", true)
  | 1 => ("ThrownOver$Text", "numbers", "[I", true)
  | 2 => ("ThrownOver$Text", "length", "I", false)
  | 3 => ("ThrownOver$Text", "at", "I", false)
  | 4 => ("ThrownOver$Text", "start", "I", false)
  | 5 => ("ThrownOver$Text", "token", "I", false)
  | 6 => ("ThrownOver$Text", "number", "I", false)
  | 7 => ("ThrownOver$Text", "items", "I", false)
  | _ => ("ThrownOver$Text", "fault", "I", false)
def tyX10 : Nat → FieldType := fun k => match k with
  | 0 => .array .byte
  | 1 => .array .int
  | 2 => .int
  | 3 => .int
  | 4 => .int
  | 5 => .int
  | 6 => .int
  | 7 => .int
  | _ => .int
abbrev wsX100 : List Cond := u_ws RX10 TX10 9
theorem nmX10 : ∀ a, a < 9 → ∀ b, b < 9 → a ≠ b → (TX10 a).2.1 ≠ (TX10 b).2.1 := by decide +kernel
theorem tyX10_ok : ∀ k, k < 9 → parseFieldDescriptor (TX10 k).2.2.1 = some (tyX10 k) := by decide +kernel
abbrev cX10_init : ByteArray := prog_12_method_1_code
def yX10_init : MethodName := ⟨RX10, "<init>", "()V"⟩
abbrev cX10_append : ByteArray := prog_12_method_2_code
def yX10_append : MethodName := ⟨RX10, "append", "(I)Z"⟩
abbrev cX10_readInto : ByteArray := prog_12_method_3_code
def yX10_readInto : MethodName := ⟨RX10, "readInto", "(LThrownOver$Cargo;)I"⟩
abbrev cX10_readItem : ByteArray := prog_12_method_4_code
def yX10_readItem : MethodName := ⟨RX10, "readItem", "(LThrownOver$Cargo;)V"⟩
abbrev cX10_takeStop : ByteArray := prog_12_method_5_code
def yX10_takeStop : MethodName := ⟨RX10, "takeStop", "()V"⟩
abbrev cX10_takeNumbers : ByteArray := prog_12_method_6_code
def yX10_takeNumbers : MethodName := ⟨RX10, "takeNumbers", "([I[I)Z"⟩
abbrev cX10_takeOver : ByteArray := prog_12_method_7_code
def yX10_takeOver : MethodName := ⟨RX10, "takeOver", "(LThrownOver$Cargo;)V"⟩
abbrev cX10_step : ByteArray := prog_12_method_8_code
def yX10_step : MethodName := ⟨RX10, "step", "()V"⟩
abbrev cX10_takeWord : ByteArray := prog_12_method_9_code
def yX10_takeWord : MethodName := ⟨RX10, "takeWord", "()V"⟩
abbrev cX10_spells : ByteArray := prog_12_method_10_code
def yX10_spells : MethodName := ⟨RX10, "spells", "(Ljava/lang/String;)Z"⟩
abbrev cX10_takeFigures : ByteArray := prog_12_method_11_code
def yX10_takeFigures : MethodName := ⟨RX10, "takeFigures", "()V"⟩
abbrev cX10_byteAt : ByteArray := prog_12_method_12_code
def yX10_byteAt : MethodName := ⟨RX10, "byteAt", "(I)I"⟩
abbrev cX10_isLetter : ByteArray := prog_12_method_13_code
def yX10_isLetter : MethodName := ⟨RX10, "isLetter", "(I)Z"⟩
abbrev cX10_isFigure : ByteArray := prog_12_method_14_code
def yX10_isFigure : MethodName := ⟨RX10, "isFigure", "(I)Z"⟩
def RX11 : String := "ThrownOver"
def TX11 : u_T := fun k => match k with
  | 0 => ("ThrownOver", "cargo", "LThrownOver$Cargo;", true)
  | 1 => ("ThrownOver", "draft", "LThrownOver$Cargo;", true)
  | 2 => ("ThrownOver", "images", "[LThrownOver$Cargo;", true)
  | 3 => ("ThrownOver", "imagesKept", "I", false)
  | 4 => ("ThrownOver", "text", "LThrownOver$Text;", true)
  | 5 => ("ThrownOver", "bill", "LThrownOver$Bill;", true)
  | 6 => ("ThrownOver", "search", "LThrownOver$LeastSearch;", true)
  | 7 => ("ThrownOver", "fraction", "LThrownOver$Fraction;", true)
  | 8 => ("ThrownOver", "newShip", "[I", true)
  | 9 => ("ThrownOver", "newGoods", "[I", true)
  | 10 => ("ThrownOver", "newSeen", "[I", true)
  | 11 => ("ThrownOver", "badCalls", "I", false)
  | 12 => ("ThrownOver", "noCalls", "I", false)
  | _ => ("ThrownOver", "fullCalls", "I", false)
def tyX11 : Nat → FieldType := fun k => match k with
  | 0 => .object "ThrownOver$Cargo"
  | 1 => .object "ThrownOver$Cargo"
  | 2 => .array (.object "ThrownOver$Cargo")
  | 3 => .int
  | 4 => .object "ThrownOver$Text"
  | 5 => .object "ThrownOver$Bill"
  | 6 => .object "ThrownOver$LeastSearch"
  | 7 => .object "ThrownOver$Fraction"
  | 8 => .array .int
  | 9 => .array .int
  | 10 => .array .int
  | 11 => .int
  | 12 => .int
  | _ => .int
abbrev wsX110 : List Cond := u_ws RX11 TX11 14
theorem nmX11 : ∀ a, a < 14 → ∀ b, b < 14 → a ≠ b → (TX11 a).2.1 ≠ (TX11 b).2.1 := by decide +kernel
theorem tyX11_ok : ∀ k, k < 14 → parseFieldDescriptor (TX11 k).2.2.1 = some (tyX11 k) := by decide +kernel
abbrev cX11_init : ByteArray := prog_1_method_1_code
def yX11_init : MethodName := ⟨RX11, "<init>", "()V"⟩
abbrev cX11_ship : ByteArray := prog_1_method_2_code
def yX11_ship : MethodName := ⟨RX11, "ship", "(II)I"⟩
abbrev cX11_goods : ByteArray := prog_1_method_3_code
def yX11_goods : MethodName := ⟨RX11, "goods", "(IIIIII)I"⟩
abbrev cX11_tells : ByteArray := prog_1_method_4_code
def yX11_tells : MethodName := ⟨RX11, "tells", "(II)I"⟩
abbrev cX11_type : ByteArray := prog_1_method_5_code
def yX11_type : MethodName := ⟨RX11, "type", "(I)I"⟩
abbrev cX11_clear : ByteArray := prog_1_method_6_code
def yX11_clear : MethodName := ⟨RX11, "clear", "()I"⟩
abbrev cX11_read : ByteArray := prog_1_method_7_code
def yX11_read : MethodName := ⟨RX11, "read", "()I"⟩
abbrev cX11_over : ByteArray := prog_1_method_8_code
def yX11_over : MethodName := ⟨RX11, "over", "(I)I"⟩
abbrev cX11_undo : ByteArray := prog_1_method_9_code
def yX11_undo : MethodName := ⟨RX11, "undo", "()I"⟩
abbrev cX11_of : ByteArray := prog_1_method_10_code
def yX11_of : MethodName := ⟨RX11, "of", "(II)I"⟩
abbrev cX11_lives : ByteArray := prog_1_method_11_code
def yX11_lives : MethodName := ⟨RX11, "lives", "(I)I"⟩
abbrev cX11_now : ByteArray := prog_1_method_12_code
def yX11_now : MethodName := ⟨RX11, "now", "(I)I"⟩
abbrev cX11_share : ByteArray := prog_1_method_13_code
def yX11_share : MethodName := ⟨RX11, "share", "(I)I"⟩
abbrev cX11_net : ByteArray := prog_1_method_14_code
def yX11_net : MethodName := ⟨RX11, "net", "(I)I"⟩
abbrev cX11_least : ByteArray := prog_1_method_15_code
def yX11_least : MethodName := ⟨RX11, "least", "(II)I"⟩
abbrev cX11_needful : ByteArray := prog_1_method_16_code
def yX11_needful : MethodName := ⟨RX11, "needful", "(I)I"⟩
abbrev cX11_stow : ByteArray := prog_1_method_17_code
def yX11_stow : MethodName := ⟨RX11, "stow", "(II)I"⟩
abbrev cX11_tell : ByteArray := prog_1_method_18_code
def yX11_tell : MethodName := ⟨RX11, "tell", "(I)I"⟩
abbrev cX11_marked : ByteArray := prog_1_method_19_code
def yX11_marked : MethodName := ⟨RX11, "marked", "(II)I"⟩
abbrev cX11_seen : ByteArray := prog_1_method_20_code
def yX11_seen : MethodName := ⟨RX11, "seen", "(III)I"⟩
abbrev cX11_forget : ByteArray := prog_1_method_21_code
def yX11_forget : MethodName := ⟨RX11, "forget", "()I"⟩
abbrev cX11_barrel : ByteArray := prog_1_method_22_code
def yX11_barrel : MethodName := ⟨RX11, "barrel", "()I"⟩
abbrev cX11_whose : ByteArray := prog_1_method_23_code
def yX11_whose : MethodName := ⟨RX11, "whose", "()I"⟩
abbrev cX11_asks : ByteArray := prog_1_method_24_code
def yX11_asks : MethodName := ⟨RX11, "asks", "()I"⟩
abbrev cX11_odds : ByteArray := prog_1_method_25_code
def yX11_odds : MethodName := ⟨RX11, "odds", "(I)I"⟩
abbrev cX11_safe : ByteArray := prog_1_method_26_code
def yX11_safe : MethodName := ⟨RX11, "safe", "()I"⟩
abbrev cX11_voyages : ByteArray := prog_1_method_27_code
def yX11_voyages : MethodName := ⟨RX11, "voyages", "(II)I"⟩
abbrev cX11_part : ByteArray := prog_1_method_28_code
def yX11_part : MethodName := ⟨RX11, "part", "(I)J"⟩
abbrev cX11_image : ByteArray := prog_1_method_29_code
def yX11_image : MethodName := ⟨RX11, "image", "(I)I"⟩
abbrev cX11_from : ByteArray := prog_1_method_30_code
def yX11_from : MethodName := ⟨RX11, "from", "(I)I"⟩
abbrev cX11_status : ByteArray := prog_1_method_31_code
def yX11_status : MethodName := ⟨RX11, "status", "(I)I"⟩
abbrev cX11_count : ByteArray := prog_1_method_32_code
def yX11_count : MethodName := ⟨RX11, "count", "(I)I"⟩
abbrev cX11_digest : ByteArray := prog_1_method_33_code
def yX11_digest : MethodName := ⟨RX11, "digest", "()J"⟩
abbrev cX11_refuse : ByteArray := prog_1_method_34_code
def yX11_refuse : MethodName := ⟨RX11, "refuse", "(I)I"⟩
abbrev cX11_howMany : ByteArray := prog_1_method_35_code
def yX11_howMany : MethodName := ⟨RX11, "howMany", "(I)I"⟩
abbrev cX11_inOrder : ByteArray := prog_1_method_36_code
def yX11_inOrder : MethodName := ⟨RX11, "inOrder", "(II)I"⟩
abbrev cX11_isStorm : ByteArray := prog_1_method_37_code
def yX11_isStorm : MethodName := ⟨RX11, "isStorm", "(I)Z"⟩
abbrev cX11_within : ByteArray := prog_1_method_38_code
def yX11_within : MethodName := ⟨RX11, "within", "(III)Z"⟩
abbrev cX11_allWithin : ByteArray := prog_1_method_39_code
def yX11_allWithin : MethodName := ⟨RX11, "allWithin", "([I[I[I)Z"⟩
abbrev cX11_isIn : ByteArray := prog_1_method_40_code
def yX11_isIn : MethodName := ⟨RX11, "isIn", "(II)Z"⟩
def RX12 : String := "ThrownOverModel"
def TX12 : u_T := fun k => match k with
  | 0 => ("ThrownOverModel", "w", "[I", true)
  | 1 => ("ThrownOverModel", "isKept", "[Z", true)
  | 2 => ("ThrownOverModel", "text", "[I", true)
  | 3 => ("ThrownOverModel", "texted", "I", false)
  | 4 => ("ThrownOverModel", "refused", "[I", true)
  | 5 => ("ThrownOverModel", "above", "J", false)
  | 6 => ("ThrownOverModel", "below", "J", false)
  | 7 => ("ThrownOverModel", "at", "I", false)
  | 8 => ("ThrownOverModel", "start", "I", false)
  | 9 => ("ThrownOverModel", "isWord", "Z", false)
  | 10 => ("ThrownOverModel", "isFigures", "Z", false)
  | 11 => ("ThrownOverModel", "numbers", "[I", true)
  | 12 => ("ThrownOverModel", "leastSet", "I", false)
  | 13 => ("ThrownOverModel", "leastWorth", "I", false)
  | _ => ("ThrownOverModel", "h", "J", false)
def tyX12 : Nat → FieldType := fun k => match k with
  | 0 => .array .int
  | 1 => .array .boolean
  | 2 => .array .int
  | 3 => .int
  | 4 => .array .int
  | 5 => .long
  | 6 => .long
  | 7 => .int
  | 8 => .int
  | 9 => .boolean
  | 10 => .boolean
  | 11 => .array .int
  | 12 => .int
  | 13 => .int
  | _ => .long
abbrev wsX120 : List Cond := u_ws RX12 TX12 15
theorem nmX12 : ∀ a, a < 15 → ∀ b, b < 15 → a ≠ b → (TX12 a).2.1 ≠ (TX12 b).2.1 := by decide +kernel
theorem tyX12_ok : ∀ k, k < 15 → parseFieldDescriptor (TX12 k).2.2.1 = some (tyX12 k) := by decide +kernel
abbrev cX12_init : ByteArray := prog_14_method_1_code
def yX12_init : MethodName := ⟨RX12, "<init>", "()V"⟩
abbrev cX12_in : ByteArray := prog_14_method_3_code
def yX12_in : MethodName := ⟨RX12, "in", "(JJJ)Z"⟩
abbrev cX12_has : ByteArray := prog_14_method_4_code
def yX12_has : MethodName := ⟨RX12, "has", "(II)Z"⟩
abbrev cX12_ones : ByteArray := prog_14_method_5_code
def yX12_ones : MethodName := ⟨RX12, "ones", "(I)I"⟩
abbrev cX12_bad : ByteArray := prog_14_method_6_code
def yX12_bad : MethodName := ⟨RX12, "bad", "()I"⟩
abbrev cX12_badAs : ByteArray := prog_14_method_7_code
def yX12_badAs : MethodName := ⟨RX12, "badAs", "(I)I"⟩
abbrev cX12_no : ByteArray := prog_14_method_8_code
def yX12_no : MethodName := ⟨RX12, "no", "()I"⟩
abbrev cX12_full : ByteArray := prog_14_method_9_code
def yX12_full : MethodName := ⟨RX12, "full", "()I"⟩
abbrev cX12_copy : ByteArray := prog_14_method_10_code
def yX12_copy : MethodName := ⟨RX12, "copy", "(II)V"⟩
abbrev cX12_begins : ByteArray := prog_14_method_11_code
def yX12_begins : MethodName := ⟨RX12, "begins", "(III)V"⟩
abbrev cX12_isGoods : ByteArray := prog_14_method_12_code
def yX12_isGoods : MethodName := ⟨RX12, "isGoods", "(I)Z"⟩
abbrev cX12_isOwner : ByteArray := prog_14_method_13_code
def yX12_isOwner : MethodName := ⟨RX12, "isOwner", "(I)Z"⟩
abbrev cX12_isStorm : ByteArray := prog_14_method_14_code
def yX12_isStorm : MethodName := ⟨RX12, "isStorm", "(I)Z"⟩
abbrev cX12_ship : ByteArray := prog_14_method_15_code
def yX12_ship : MethodName := ⟨RX12, "ship", "(II)I"⟩
abbrev cX12_adds : ByteArray := prog_14_method_16_code
def yX12_adds : MethodName := ⟨RX12, "adds", "(IIIIIII)I"⟩
abbrev cX12_goods : ByteArray := prog_14_method_17_code
def yX12_goods : MethodName := ⟨RX12, "goods", "(IIIIII)I"⟩
abbrev cX12_tells : ByteArray := prog_14_method_18_code
def yX12_tells : MethodName := ⟨RX12, "tells", "(II)I"⟩
abbrev cX12_isTop : ByteArray := prog_14_method_19_code
def yX12_isTop : MethodName := ⟨RX12, "isTop", "(IIIII)Z"⟩
abbrev cX12_isFree : ByteArray := prog_14_method_20_code
def yX12_isFree : MethodName := ⟨RX12, "isFree", "(I)Z"⟩
abbrev cX12_type : ByteArray := prog_14_method_21_code
def yX12_type : MethodName := ⟨RX12, "type", "(I)I"⟩
abbrev cX12_clear : ByteArray := prog_14_method_22_code
def yX12_clear : MethodName := ⟨RX12, "clear", "()I"⟩
abbrev cX12_byteAt : ByteArray := prog_14_method_23_code
def yX12_byteAt : MethodName := ⟨RX12, "byteAt", "(I)I"⟩
abbrev cX12_token : ByteArray := prog_14_method_24_code
def yX12_token : MethodName := ⟨RX12, "token", "()V"⟩
abbrev cX12_isNamed : ByteArray := prog_14_method_25_code
def yX12_isNamed : MethodName := ⟨RX12, "isNamed", "(IIIII)Z"⟩
abbrev cX12_wordNow : ByteArray := prog_14_method_26_code
def yX12_wordNow : MethodName := ⟨RX12, "wordNow", "()I"⟩
abbrev cX12_takes : ByteArray := prog_14_method_27_code
def yX12_takes : MethodName := ⟨RX12, "takes", "(III)Z"⟩
abbrev cX12_takesShip : ByteArray := prog_14_method_28_code
def yX12_takesShip : MethodName := ⟨RX12, "takesShip", "()Z"⟩
abbrev cX12_takesGoods : ByteArray := prog_14_method_29_code
def yX12_takesGoods : MethodName := ⟨RX12, "takesGoods", "()Z"⟩
abbrev cX12_takesOver : ByteArray := prog_14_method_30_code
def yX12_takesOver : MethodName := ⟨RX12, "takesOver", "()Z"⟩
abbrev cX12_takesItem : ByteArray := prog_14_method_31_code
def yX12_takesItem : MethodName := ⟨RX12, "takesItem", "(I)Z"⟩
abbrev cX12_read : ByteArray := prog_14_method_32_code
def yX12_read : MethodName := ⟨RX12, "read", "()I"⟩
abbrev cX12_goodOf : ByteArray := prog_14_method_33_code
def yX12_goodOf : MethodName := ⟨RX12, "goodOf", "(II)I"⟩
abbrev cX12_bearsOf : ByteArray := prog_14_method_34_code
def yX12_bearsOf : MethodName := ⟨RX12, "bearsOf", "(II)I"⟩
abbrev cX12_madeGood : ByteArray := prog_14_method_35_code
def yX12_madeGood : MethodName := ⟨RX12, "madeGood", "(I)I"⟩
abbrev cX12_lossOf : ByteArray := prog_14_method_36_code
def yX12_lossOf : MethodName := ⟨RX12, "lossOf", "(I)I"⟩
abbrev cX12_bears : ByteArray := prog_14_method_37_code
def yX12_bears : MethodName := ⟨RX12, "bears", "(I)I"⟩
abbrev cX12_over : ByteArray := prog_14_method_38_code
def yX12_over : MethodName := ⟨RX12, "over", "(I)I"⟩
abbrev cX12_undo : ByteArray := prog_14_method_39_code
def yX12_undo : MethodName := ⟨RX12, "undo", "()I"⟩
abbrev cX12_of : ByteArray := prog_14_method_40_code
def yX12_of : MethodName := ⟨RX12, "of", "(II)I"⟩
abbrev cX12_heavyOf : ByteArray := prog_14_method_41_code
def yX12_heavyOf : MethodName := ⟨RX12, "heavyOf", "(I)I"⟩
abbrev cX12_worthOf : ByteArray := prog_14_method_42_code
def yX12_worthOf : MethodName := ⟨RX12, "worthOf", "(I)I"⟩
abbrev cX12_isAlive : ByteArray := prog_14_method_43_code
def yX12_isAlive : MethodName := ⟨RX12, "isAlive", "(II)Z"⟩
abbrev cX12_lives : ByteArray := prog_14_method_44_code
def yX12_lives : MethodName := ⟨RX12, "lives", "(I)I"⟩
abbrev cX12_now : ByteArray := prog_14_method_45_code
def yX12_now : MethodName := ⟨RX12, "now", "(I)I"⟩
abbrev cX12_tellsPart : ByteArray := prog_14_method_46_code
def yX12_tellsPart : MethodName := ⟨RX12, "tellsPart", "(JJ)I"⟩
abbrev cX12_whole : ByteArray := prog_14_method_47_code
def yX12_whole : MethodName := ⟨RX12, "whole", "()I"⟩
abbrev cX12_share : ByteArray := prog_14_method_48_code
def yX12_share : MethodName := ⟨RX12, "share", "(I)I"⟩
abbrev cX12_netOf : ByteArray := prog_14_method_49_code
def yX12_netOf : MethodName := ⟨RX12, "netOf", "(I)J"⟩
abbrev cX12_net : ByteArray := prog_14_method_50_code
def yX12_net : MethodName := ⟨RX12, "net", "(I)I"⟩
abbrev cX12_canGo : ByteArray := prog_14_method_51_code
def yX12_canGo : MethodName := ⟨RX12, "canGo", "(IIII)Z"⟩
abbrev cX12_findLeast : ByteArray := prog_14_method_52_code
def yX12_findLeast : MethodName := ⟨RX12, "findLeast", "(IIII)V"⟩
abbrev cX12_least : ByteArray := prog_14_method_53_code
def yX12_least : MethodName := ⟨RX12, "least", "(II)I"⟩
abbrev cX12_thrownSet : ByteArray := prog_14_method_54_code
def yX12_thrownSet : MethodName := ⟨RX12, "thrownSet", "()I"⟩
abbrev cX12_needful : ByteArray := prog_14_method_55_code
def yX12_needful : MethodName := ⟨RX12, "needful", "(I)I"⟩
abbrev cX12_stow : ByteArray := prog_14_method_56_code
def yX12_stow : MethodName := ⟨RX12, "stow", "(II)I"⟩
abbrev cX12_tell : ByteArray := prog_14_method_57_code
def yX12_tell : MethodName := ⟨RX12, "tell", "(I)I"⟩
abbrev cX12_marked : ByteArray := prog_14_method_58_code
def yX12_marked : MethodName := ⟨RX12, "marked", "(II)I"⟩
abbrev cX12_seen : ByteArray := prog_14_method_59_code
def yX12_seen : MethodName := ⟨RX12, "seen", "(III)I"⟩
abbrev cX12_forget : ByteArray := prog_14_method_60_code
def yX12_forget : MethodName := ⟨RX12, "forget", "()I"⟩
abbrev cX12_barrel : ByteArray := prog_14_method_61_code
def yX12_barrel : MethodName := ⟨RX12, "barrel", "()I"⟩
abbrev cX12_whose : ByteArray := prog_14_method_62_code
def yX12_whose : MethodName := ⟨RX12, "whose", "()I"⟩
abbrev cX12_asks : ByteArray := prog_14_method_63_code
def yX12_asks : MethodName := ⟨RX12, "asks", "()I"⟩
abbrev cX12_odds : ByteArray := prog_14_method_64_code
def yX12_odds : MethodName := ⟨RX12, "odds", "(I)I"⟩
abbrev cX12_safe : ByteArray := prog_14_method_65_code
def yX12_safe : MethodName := ⟨RX12, "safe", "()I"⟩
abbrev cX12_voyages : ByteArray := prog_14_method_66_code
def yX12_voyages : MethodName := ⟨RX12, "voyages", "(II)I"⟩
abbrev cX12_part : ByteArray := prog_14_method_67_code
def yX12_part : MethodName := ⟨RX12, "part", "(I)J"⟩
abbrev cX12_image : ByteArray := prog_14_method_68_code
def yX12_image : MethodName := ⟨RX12, "image", "(I)I"⟩
abbrev cX12_from : ByteArray := prog_14_method_69_code
def yX12_from : MethodName := ⟨RX12, "from", "(I)I"⟩
abbrev cX12_status : ByteArray := prog_14_method_70_code
def yX12_status : MethodName := ⟨RX12, "status", "(I)I"⟩
abbrev cX12_countOf : ByteArray := prog_14_method_71_code
def yX12_countOf : MethodName := ⟨RX12, "countOf", "(I)I"⟩
abbrev cX12_count : ByteArray := prog_14_method_72_code
def yX12_count : MethodName := ⟨RX12, "count", "(I)I"⟩
abbrev cX12_mix : ByteArray := prog_14_method_73_code
def yX12_mix : MethodName := ⟨RX12, "mix", "(J)V"⟩
abbrev cX12_digest : ByteArray := prog_14_method_74_code
def yX12_digest : MethodName := ⟨RX12, "digest", "()J"⟩
def RJ6 : String := "java/lang/Integer"
def TJ6 : u_T := fun k => match k with
  | _ => ("", "", "", false)
def tyJ6 : Nat → FieldType := fun k => match k with
  | _ => .int
abbrev wsJ60 : List Cond := u_ws RJ6 TJ6 0
theorem nmJ6 : ∀ a, a < 0 → ∀ b, b < 0 → a ≠ b → (TJ6 a).2.1 ≠ (TJ6 b).2.1 := by decide +kernel
theorem tyJ6_ok : ∀ k, k < 0 → parseFieldDescriptor (TJ6 k).2.2.1 = some (tyJ6 k) := by decide +kernel
abbrev cJ6_bitCount_0f7a4 : ByteArray := prog_15_method_49_code
def yJ6_bitCount_0f7a4 : MethodName := ⟨RJ6, "bitCount", "(I)I"⟩
def RJ9 : String := "java/lang/Math"
def TJ9 : u_T := fun k => match k with
  | _ => ("", "", "", false)
def tyJ9 : Nat → FieldType := fun k => match k with
  | _ => .int
abbrev wsJ90 : List Cond := u_ws RJ9 TJ9 0
theorem nmJ9 : ∀ a, a < 0 → ∀ b, b < 0 → a ≠ b → (TJ9 a).2.1 ≠ (TJ9 b).2.1 := by decide +kernel
theorem tyJ9_ok : ∀ k, k < 0 → parseFieldDescriptor (TJ9 k).2.2.1 = some (tyJ9 k) := by decide +kernel
abbrev cJ9_abs_067f4 : ByteArray := prog_16_method_61_code
def yJ9_abs_067f4 : MethodName := ⟨RJ9, "abs", "(J)J"⟩
abbrev cJ9_max_7cf53 : ByteArray := prog_16_method_65_code
def yJ9_max_7cf53 : MethodName := ⟨RJ9, "max", "(II)I"⟩
abbrev cJ9_min_7cf53 : ByteArray := prog_16_method_69_code
def yJ9_min_7cf53 : MethodName := ⟨RJ9, "min", "(II)I"⟩
def RJ0 : String := "java/lang/String"
def TJ0 : u_T := fun k => match k with
  | _ => ("", "", "", false)
def tyJ0 : Nat → FieldType := fun k => match k with
  | _ => .int
abbrev wsJ00 : List Cond := u_ws RJ0 TJ0 0
theorem nmJ0 : ∀ a, a < 0 → ∀ b, b < 0 → a ≠ b → (TJ0 a).2.1 ≠ (TJ0 b).2.1 := by decide +kernel
theorem tyJ0_ok : ∀ k, k < 0 → parseFieldDescriptor (TJ0 k).2.2.1 = some (tyJ0 k) := by decide +kernel
abbrev cJ0_length_8abf5 : ByteArray := prog_17_method_54_code
def yJ0_length_8abf5 : MethodName := ⟨RJ0, "length", "()I"⟩
abbrev cJ0_charAt_5068e : ByteArray := prog_17_method_56_code
def yJ0_charAt_5068e : MethodName := ⟨RJ0, "charAt", "(I)C"⟩
abbrev cJ0_coder_7d493 : ByteArray := prog_17_method_152_code
def yJ0_coder_7d493 : MethodName := ⟨RJ0, "coder", "()B"⟩
abbrev cJ0_isLatin1_aae02 : ByteArray := prog_17_method_154_code
def yJ0_isLatin1_aae02 : MethodName := ⟨RJ0, "isLatin1", "()Z"⟩
abbrev cJ0_checkIndex_df160 : ByteArray := prog_17_method_155_code
def yJ0_checkIndex_df160 : MethodName := ⟨RJ0, "checkIndex", "(II)V"⟩
def RJ1 : String := "java/lang/StringLatin1"
def TJ1 : u_T := fun k => match k with
  | _ => ("", "", "", false)
def tyJ1 : Nat → FieldType := fun k => match k with
  | _ => .int
abbrev wsJ10 : List Cond := u_ws RJ1 TJ1 0
theorem nmJ1 : ∀ a, a < 0 → ∀ b, b < 0 → a ≠ b → (TJ1 a).2.1 ≠ (TJ1 b).2.1 := by decide +kernel
theorem tyJ1_ok : ∀ k, k < 0 → parseFieldDescriptor (TJ1 k).2.2.1 = some (tyJ1 k) := by decide +kernel
abbrev cJ1_charAt_3b067 : ByteArray := prog_18_method_2_code
def yJ1_charAt_3b067 : MethodName := ⟨RJ1, "charAt", "([BI)C"⟩
def RJ2 : String := "java/lang/StringUTF16"
def TJ2 : u_T := fun k => match k with
  | _ => ("", "", "", false)
def tyJ2 : Nat → FieldType := fun k => match k with
  | _ => .int
abbrev wsJ20 : List Cond := u_ws RJ2 TJ2 0
theorem nmJ2 : ∀ a, a < 0 → ∀ b, b < 0 → a ≠ b → (TJ2 a).2.1 ≠ (TJ2 b).2.1 := by decide +kernel
theorem tyJ2_ok : ∀ k, k < 0 → parseFieldDescriptor (TJ2 k).2.2.1 = some (tyJ2 k) := by decide +kernel
abbrev cJ2_getChar_3b067 : ByteArray := prog_19_method_5_code
def yJ2_getChar_3b067 : MethodName := ⟨RJ2, "getChar", "([BI)C"⟩
abbrev cJ2_length_9d52b : ByteArray := prog_19_method_6_code
def yJ2_length_9d52b : MethodName := ⟨RJ2, "length", "([B)I"⟩
abbrev cJ2_charAt_3b067 : ByteArray := prog_19_method_83_code
def yJ2_charAt_3b067 : MethodName := ⟨RJ2, "charAt", "([BI)C"⟩
abbrev cJ2_checkIndex_2214a : ByteArray := prog_19_method_91_code
def yJ2_checkIndex_2214a : MethodName := ⟨RJ2, "checkIndex", "(I[B)V"⟩
def RJ10 : String := "java/lang/System"
def TJ10 : u_T := fun k => match k with
  | _ => ("", "", "", false)
def tyJ10 : Nat → FieldType := fun k => match k with
  | _ => .int
abbrev wsJ100 : List Cond := u_ws RJ10 TJ10 0
theorem nmJ10 : ∀ a, a < 0 → ∀ b, b < 0 → a ≠ b → (TJ10 a).2.1 ≠ (TJ10 b).2.1 := by decide +kernel
theorem tyJ10_ok : ∀ k, k < 0 → parseFieldDescriptor (TJ10 k).2.2.1 = some (tyJ10 k) := by decide +kernel
def RJ3 : String := "jdk/internal/util/Preconditions"
def TJ3 : u_T := fun k => match k with
  | _ => ("", "", "", false)
def tyJ3 : Nat → FieldType := fun k => match k with
  | _ => .int
abbrev wsJ30 : List Cond := u_ws RJ3 TJ3 0
theorem nmJ3 : ∀ a, a < 0 → ∀ b, b < 0 → a ≠ b → (TJ3 a).2.1 ≠ (TJ3 b).2.1 := by decide +kernel
theorem tyJ3_ok : ∀ k, k < 0 → parseFieldDescriptor (TJ3 k).2.2.1 = some (tyJ3 k) := by decide +kernel
abbrev cJ3_checkIndex_8e157 : ByteArray := prog_21_method_11_code
def yJ3_checkIndex_8e157 : MethodName := ⟨RJ3, "checkIndex", "(IILjava/util/function/BiFunction;)I"⟩
def RL : String := "ThrownOverLaw"
abbrev cL_law : ByteArray := code
def yL_law : MethodName := ⟨RL, "law", "([I)Z"⟩
abbrev vwCl : List vw_C := [(RX0, TX0, 5), (RX1, TX1, 9), (RX2, TX2, 0), (RX3, TX3, 2), (RX4, TX4, 0), (RX5, TX5, 0), (RX6, TX6, 8), (RX7, TX7, 0), (RX8, TX8, 0), (RX9, TX9, 0), (RX10, TX10, 9), (RX11, TX11, 14), (RX12, TX12, 15)]
