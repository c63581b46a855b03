section
-- ===== PART A: goes FIRST, ahead of the names: the tables' words, and 'selects' of the private methods out of them =====
/-- a private method of a class that the tables say can be made, by its rows of tables_1 -/
def lw_okq (q : MethodName × Nat) : Prop := (q.1.cls ≠ "java/lang/invoke/MethodHandle" ∧ q.1.cls ≠ "java/lang/invoke/VarHandle") ∧ Cond.instantiable q.1.cls q.2 ∈ tables_1 ∧ Cond.privateMethod q.1 ∈ tables_1 ∧ Cond.instanceMethod q.1 ∈ tables_1
theorem lw_p0 : lw_okq (⟨"ThrownOver", "refuse", "(I)I"⟩, 14) := ⟨⟨by decide +kernel, by decide +kernel⟩, List.mem_of_getElem? (i := 22) (by decide +kernel), List.mem_of_getElem? (i := 286) (by decide +kernel), List.mem_of_getElem? (i := 287) (by decide +kernel)⟩
theorem lw_p1 : lw_okq (⟨"ThrownOver$Text", "step", "()V"⟩, 9) := ⟨⟨by decide +kernel, by decide +kernel⟩, List.mem_of_getElem? (i := 80) (by decide +kernel), List.mem_of_getElem? (i := 348) (by decide +kernel), List.mem_of_getElem? (i := 349) (by decide +kernel)⟩
theorem lw_p2 : lw_okq (⟨"ThrownOver$Text", "byteAt", "(I)I"⟩, 9) := ⟨⟨by decide +kernel, by decide +kernel⟩, List.mem_of_getElem? (i := 80) (by decide +kernel), List.mem_of_getElem? (i := 352) (by decide +kernel), List.mem_of_getElem? (i := 353) (by decide +kernel)⟩
theorem lw_p3 : lw_okq (⟨"ThrownOver$Text", "takeWord", "()V"⟩, 9) := ⟨⟨by decide +kernel, by decide +kernel⟩, List.mem_of_getElem? (i := 80) (by decide +kernel), List.mem_of_getElem? (i := 359) (by decide +kernel), List.mem_of_getElem? (i := 360) (by decide +kernel)⟩
theorem lw_p4 : lw_okq (⟨"ThrownOver$Text", "spells", "(Ljava/lang/String;)Z"⟩, 9) := ⟨⟨by decide +kernel, by decide +kernel⟩, List.mem_of_getElem? (i := 80) (by decide +kernel), List.mem_of_getElem? (i := 364) (by decide +kernel), List.mem_of_getElem? (i := 365) (by decide +kernel)⟩
theorem lw_p5 : lw_okq (⟨"ThrownOver$Text", "takeFigures", "()V"⟩, 9) := ⟨⟨by decide +kernel, by decide +kernel⟩, List.mem_of_getElem? (i := 80) (by decide +kernel), List.mem_of_getElem? (i := 421) (by decide +kernel), List.mem_of_getElem? (i := 422) (by decide +kernel)⟩
theorem lw_p6 : lw_okq (⟨"ThrownOver$Text", "readItem", "(LThrownOver$Cargo;)V"⟩, 9) := ⟨⟨by decide +kernel, by decide +kernel⟩, List.mem_of_getElem? (i := 80) (by decide +kernel), List.mem_of_getElem? (i := 425) (by decide +kernel), List.mem_of_getElem? (i := 426) (by decide +kernel)⟩
theorem lw_p7 : lw_okq (⟨"ThrownOver$Text", "takeNumbers", "([I[I)Z"⟩, 9) := ⟨⟨by decide +kernel, by decide +kernel⟩, List.mem_of_getElem? (i := 80) (by decide +kernel), List.mem_of_getElem? (i := 431) (by decide +kernel), List.mem_of_getElem? (i := 432) (by decide +kernel)⟩
theorem lw_p8 : lw_okq (⟨"ThrownOver$Text", "takeOver", "(LThrownOver$Cargo;)V"⟩, 9) := ⟨⟨by decide +kernel, by decide +kernel⟩, List.mem_of_getElem? (i := 80) (by decide +kernel), List.mem_of_getElem? (i := 439) (by decide +kernel), List.mem_of_getElem? (i := 440) (by decide +kernel)⟩
theorem lw_p9 : lw_okq (⟨"ThrownOver$Text", "takeStop", "()V"⟩, 9) := ⟨⟨by decide +kernel, by decide +kernel⟩, List.mem_of_getElem? (i := 80) (by decide +kernel), List.mem_of_getElem? (i := 455) (by decide +kernel), List.mem_of_getElem? (i := 456) (by decide +kernel)⟩
theorem lw_p10 : lw_okq (⟨"ThrownOver$Bill", "kindOf", "(LThrownOver$Cargo;I)LThrownOver$PlainKind;"⟩, 5) := ⟨⟨by decide +kernel, by decide +kernel⟩, List.mem_of_getElem? (i := 116) (by decide +kernel), List.mem_of_getElem? (i := 473) (by decide +kernel), List.mem_of_getElem? (i := 474) (by decide +kernel)⟩
theorem lw_p11 : lw_okq (⟨"ThrownOver$Bill", "begin", "(LThrownOver$Cargo;I)V"⟩, 5) := ⟨⟨by decide +kernel, by decide +kernel⟩, List.mem_of_getElem? (i := 116) (by decide +kernel), List.mem_of_getElem? (i := 543) (by decide +kernel), List.mem_of_getElem? (i := 544) (by decide +kernel)⟩
theorem lw_p12 : lw_okq (⟨"ThrownOver$Bill", "enter", "(LThrownOver$Cargo;III)V"⟩, 5) := ⟨⟨by decide +kernel, by decide +kernel⟩, List.mem_of_getElem? (i := 116) (by decide +kernel), List.mem_of_getElem? (i := 547) (by decide +kernel), List.mem_of_getElem? (i := 548) (by decide +kernel)⟩
theorem lw_p13 : lw_okq (⟨"ThrownOver$LeastSearch", "pileUp", "(LThrownOver$Cargo;III)V"⟩, 8) := ⟨⟨by decide +kernel, by decide +kernel⟩, List.mem_of_getElem? (i := 183) (by decide +kernel), List.mem_of_getElem? (i := 612) (by decide +kernel), List.mem_of_getElem? (i := 613) (by decide +kernel)⟩
theorem lw_p14 : lw_okq (⟨"ThrownOver$LeastSearch", "lay", "(LThrownOver$Cargo;II)V"⟩, 8) := ⟨⟨by decide +kernel, by decide +kernel⟩, List.mem_of_getElem? (i := 183) (by decide +kernel), List.mem_of_getElem? (i := 616) (by decide +kernel), List.mem_of_getElem? (i := 617) (by decide +kernel)⟩
theorem lw_p15 : lw_okq (⟨"ThrownOver$LeastSearch", "choose", "(LThrownOver$Cargo;II)I"⟩, 8) := ⟨⟨by decide +kernel, by decide +kernel⟩, List.mem_of_getElem? (i := 183) (by decide +kernel), List.mem_of_getElem? (i := 623) (by decide +kernel), List.mem_of_getElem? (i := 624) (by decide +kernel)⟩
def lw_privs_1 : List (MethodName × Nat) := [(⟨"ThrownOver", "refuse", "(I)I"⟩, 14), (⟨"ThrownOver$Text", "step", "()V"⟩, 9), (⟨"ThrownOver$Text", "byteAt", "(I)I"⟩, 9), (⟨"ThrownOver$Text", "takeWord", "()V"⟩, 9), (⟨"ThrownOver$Text", "spells", "(Ljava/lang/String;)Z"⟩, 9), (⟨"ThrownOver$Text", "takeFigures", "()V"⟩, 9), (⟨"ThrownOver$Text", "readItem", "(LThrownOver$Cargo;)V"⟩, 9), (⟨"ThrownOver$Text", "takeNumbers", "([I[I)Z"⟩, 9), (⟨"ThrownOver$Text", "takeOver", "(LThrownOver$Cargo;)V"⟩, 9), (⟨"ThrownOver$Text", "takeStop", "()V"⟩, 9), (⟨"ThrownOver$Bill", "kindOf", "(LThrownOver$Cargo;I)LThrownOver$PlainKind;"⟩, 5), (⟨"ThrownOver$Bill", "begin", "(LThrownOver$Cargo;I)V"⟩, 5), (⟨"ThrownOver$Bill", "enter", "(LThrownOver$Cargo;III)V"⟩, 5), (⟨"ThrownOver$LeastSearch", "pileUp", "(LThrownOver$Cargo;III)V"⟩, 8), (⟨"ThrownOver$LeastSearch", "lay", "(LThrownOver$Cargo;II)V"⟩, 8), (⟨"ThrownOver$LeastSearch", "choose", "(LThrownOver$Cargo;II)I"⟩, 8)]
theorem lw_r1 : ∀ q ∈ lw_privs_1, lw_okq q := List.forall_mem_cons.mpr ⟨lw_p0, List.forall_mem_cons.mpr ⟨lw_p1, List.forall_mem_cons.mpr ⟨lw_p2, List.forall_mem_cons.mpr ⟨lw_p3, List.forall_mem_cons.mpr ⟨lw_p4, List.forall_mem_cons.mpr ⟨lw_p5, List.forall_mem_cons.mpr ⟨lw_p6, List.forall_mem_cons.mpr ⟨lw_p7, List.forall_mem_cons.mpr ⟨lw_p8, List.forall_mem_cons.mpr ⟨lw_p9, List.forall_mem_cons.mpr ⟨lw_p10, List.forall_mem_cons.mpr ⟨lw_p11, List.forall_mem_cons.mpr ⟨lw_p12, List.forall_mem_cons.mpr ⟨lw_p13, List.forall_mem_cons.mpr ⟨lw_p14, List.forall_mem_cons.mpr ⟨lw_p15, fun _ h => absurd h List.not_mem_nil⟩⟩⟩⟩⟩⟩⟩⟩⟩⟩⟩⟩⟩⟩⟩⟩
theorem lw_p16 : lw_okq (⟨"ThrownOver$LeastSearch", "consider", "(III)V"⟩, 8) := ⟨⟨by decide +kernel, by decide +kernel⟩, List.mem_of_getElem? (i := 183) (by decide +kernel), List.mem_of_getElem? (i := 628) (by decide +kernel), List.mem_of_getElem? (i := 629) (by decide +kernel)⟩
theorem lw_p17 : lw_okq (⟨"ThrownOver$LeastSearch", "keepIfBetter", "(III)V"⟩, 8) := ⟨⟨by decide +kernel, by decide +kernel⟩, List.mem_of_getElem? (i := 183) (by decide +kernel), List.mem_of_getElem? (i := 632) (by decide +kernel), List.mem_of_getElem? (i := 633) (by decide +kernel)⟩
theorem lw_p18 : lw_okq (⟨"ThrownOver$LeastSearch", "isBetter", "(III)Z"⟩, 8) := ⟨⟨by decide +kernel, by decide +kernel⟩, List.mem_of_getElem? (i := 183) (by decide +kernel), List.mem_of_getElem? (i := 636) (by decide +kernel), List.mem_of_getElem? (i := 637) (by decide +kernel)⟩
theorem lw_p19 : lw_okq (⟨"ThrownOver", "inOrder", "(II)I"⟩, 14) := ⟨⟨by decide +kernel, by decide +kernel⟩, List.mem_of_getElem? (i := 22) (by decide +kernel), List.mem_of_getElem? (i := 640) (by decide +kernel), List.mem_of_getElem? (i := 641) (by decide +kernel)⟩
theorem lw_p20 : lw_okq (⟨"ThrownOver$Cargo", "fitsAll", "(I)Z"⟩, 9) := ⟨⟨by decide +kernel, by decide +kernel⟩, List.mem_of_getElem? (i := 30) (by decide +kernel), List.mem_of_getElem? (i := 702) (by decide +kernel), List.mem_of_getElem? (i := 703) (by decide +kernel)⟩
theorem lw_p21 : lw_okq (⟨"ThrownOver", "howMany", "(I)I"⟩, 14) := ⟨⟨by decide +kernel, by decide +kernel⟩, List.mem_of_getElem? (i := 22) (by decide +kernel), List.mem_of_getElem? (i := 767) (by decide +kernel), List.mem_of_getElem? (i := 768) (by decide +kernel)⟩
theorem lw_p22 : lw_okq (⟨"ThrownOverModel", "begins", "(III)V"⟩, 15) := ⟨⟨by decide +kernel, by decide +kernel⟩, List.mem_of_getElem? (i := 778) (by decide +kernel), List.mem_of_getElem? (i := 784) (by decide +kernel), List.mem_of_getElem? (i := 785) (by decide +kernel)⟩
theorem lw_p23 : lw_okq (⟨"ThrownOverModel", "bad", "()I"⟩, 15) := ⟨⟨by decide +kernel, by decide +kernel⟩, List.mem_of_getElem? (i := 778) (by decide +kernel), List.mem_of_getElem? (i := 844) (by decide +kernel), List.mem_of_getElem? (i := 845) (by decide +kernel)⟩
theorem lw_p24 : lw_okq (⟨"ThrownOverModel", "full", "()I"⟩, 15) := ⟨⟨by decide +kernel, by decide +kernel⟩, List.mem_of_getElem? (i := 778) (by decide +kernel), List.mem_of_getElem? (i := 860) (by decide +kernel), List.mem_of_getElem? (i := 861) (by decide +kernel)⟩
theorem lw_p25 : lw_okq (⟨"ThrownOverModel", "adds", "(IIIIIII)I"⟩, 15) := ⟨⟨by decide +kernel, by decide +kernel⟩, List.mem_of_getElem? (i := 778) (by decide +kernel), List.mem_of_getElem? (i := 864) (by decide +kernel), List.mem_of_getElem? (i := 865) (by decide +kernel)⟩
theorem lw_p26 : lw_okq (⟨"ThrownOverModel", "isGoods", "(I)Z"⟩, 15) := ⟨⟨by decide +kernel, by decide +kernel⟩, List.mem_of_getElem? (i := 778) (by decide +kernel), List.mem_of_getElem? (i := 872) (by decide +kernel), List.mem_of_getElem? (i := 873) (by decide +kernel)⟩
theorem lw_p27 : lw_okq (⟨"ThrownOverModel", "token", "()V"⟩, 15) := ⟨⟨by decide +kernel, by decide +kernel⟩, List.mem_of_getElem? (i := 778) (by decide +kernel), List.mem_of_getElem? (i := 889) (by decide +kernel), List.mem_of_getElem? (i := 890) (by decide +kernel)⟩
theorem lw_p28 : lw_okq (⟨"ThrownOverModel", "byteAt", "(I)I"⟩, 15) := ⟨⟨by decide +kernel, by decide +kernel⟩, List.mem_of_getElem? (i := 778) (by decide +kernel), List.mem_of_getElem? (i := 893) (by decide +kernel), List.mem_of_getElem? (i := 894) (by decide +kernel)⟩
theorem lw_p29 : lw_okq (⟨"ThrownOverModel", "takesItem", "(I)Z"⟩, 15) := ⟨⟨by decide +kernel, by decide +kernel⟩, List.mem_of_getElem? (i := 778) (by decide +kernel), List.mem_of_getElem? (i := 901) (by decide +kernel), List.mem_of_getElem? (i := 902) (by decide +kernel)⟩
theorem lw_p30 : lw_okq (⟨"ThrownOverModel", "wordNow", "()I"⟩, 15) := ⟨⟨by decide +kernel, by decide +kernel⟩, List.mem_of_getElem? (i := 778) (by decide +kernel), List.mem_of_getElem? (i := 905) (by decide +kernel), List.mem_of_getElem? (i := 906) (by decide +kernel)⟩
theorem lw_p31 : lw_okq (⟨"ThrownOverModel", "isNamed", "(IIIII)Z"⟩, 15) := ⟨⟨by decide +kernel, by decide +kernel⟩, List.mem_of_getElem? (i := 778) (by decide +kernel), List.mem_of_getElem? (i := 909) (by decide +kernel), List.mem_of_getElem? (i := 910) (by decide +kernel)⟩
def lw_privs_2 : List (MethodName × Nat) := [(⟨"ThrownOver$LeastSearch", "consider", "(III)V"⟩, 8), (⟨"ThrownOver$LeastSearch", "keepIfBetter", "(III)V"⟩, 8), (⟨"ThrownOver$LeastSearch", "isBetter", "(III)Z"⟩, 8), (⟨"ThrownOver", "inOrder", "(II)I"⟩, 14), (⟨"ThrownOver$Cargo", "fitsAll", "(I)Z"⟩, 9), (⟨"ThrownOver", "howMany", "(I)I"⟩, 14), (⟨"ThrownOverModel", "begins", "(III)V"⟩, 15), (⟨"ThrownOverModel", "bad", "()I"⟩, 15), (⟨"ThrownOverModel", "full", "()I"⟩, 15), (⟨"ThrownOverModel", "adds", "(IIIIIII)I"⟩, 15), (⟨"ThrownOverModel", "isGoods", "(I)Z"⟩, 15), (⟨"ThrownOverModel", "token", "()V"⟩, 15), (⟨"ThrownOverModel", "byteAt", "(I)I"⟩, 15), (⟨"ThrownOverModel", "takesItem", "(I)Z"⟩, 15), (⟨"ThrownOverModel", "wordNow", "()I"⟩, 15), (⟨"ThrownOverModel", "isNamed", "(IIIII)Z"⟩, 15)]
theorem lw_r2 : ∀ q ∈ lw_privs_2, lw_okq q := List.forall_mem_cons.mpr ⟨lw_p16, List.forall_mem_cons.mpr ⟨lw_p17, List.forall_mem_cons.mpr ⟨lw_p18, List.forall_mem_cons.mpr ⟨lw_p19, List.forall_mem_cons.mpr ⟨lw_p20, List.forall_mem_cons.mpr ⟨lw_p21, List.forall_mem_cons.mpr ⟨lw_p22, List.forall_mem_cons.mpr ⟨lw_p23, List.forall_mem_cons.mpr ⟨lw_p24, List.forall_mem_cons.mpr ⟨lw_p25, List.forall_mem_cons.mpr ⟨lw_p26, List.forall_mem_cons.mpr ⟨lw_p27, List.forall_mem_cons.mpr ⟨lw_p28, List.forall_mem_cons.mpr ⟨lw_p29, List.forall_mem_cons.mpr ⟨lw_p30, List.forall_mem_cons.mpr ⟨lw_p31, fun _ h => absurd h List.not_mem_nil⟩⟩⟩⟩⟩⟩⟩⟩⟩⟩⟩⟩⟩⟩⟩⟩
theorem lw_p32 : lw_okq (⟨"ThrownOverModel", "takesShip", "()Z"⟩, 15) := ⟨⟨by decide +kernel, by decide +kernel⟩, List.mem_of_getElem? (i := 778) (by decide +kernel), List.mem_of_getElem? (i := 913) (by decide +kernel), List.mem_of_getElem? (i := 914) (by decide +kernel)⟩
theorem lw_p33 : lw_okq (⟨"ThrownOverModel", "takes", "(III)Z"⟩, 15) := ⟨⟨by decide +kernel, by decide +kernel⟩, List.mem_of_getElem? (i := 778) (by decide +kernel), List.mem_of_getElem? (i := 917) (by decide +kernel), List.mem_of_getElem? (i := 918) (by decide +kernel)⟩
theorem lw_p34 : lw_okq (⟨"ThrownOverModel", "takesGoods", "()Z"⟩, 15) := ⟨⟨by decide +kernel, by decide +kernel⟩, List.mem_of_getElem? (i := 778) (by decide +kernel), List.mem_of_getElem? (i := 921) (by decide +kernel), List.mem_of_getElem? (i := 922) (by decide +kernel)⟩
theorem lw_p35 : lw_okq (⟨"ThrownOverModel", "takesOver", "()Z"⟩, 15) := ⟨⟨by decide +kernel, by decide +kernel⟩, List.mem_of_getElem? (i := 778) (by decide +kernel), List.mem_of_getElem? (i := 925) (by decide +kernel), List.mem_of_getElem? (i := 926) (by decide +kernel)⟩
theorem lw_p36 : lw_okq (⟨"ThrownOverModel", "isTop", "(IIIII)Z"⟩, 15) := ⟨⟨by decide +kernel, by decide +kernel⟩, List.mem_of_getElem? (i := 778) (by decide +kernel), List.mem_of_getElem? (i := 929) (by decide +kernel), List.mem_of_getElem? (i := 930) (by decide +kernel)⟩
theorem lw_p37 : lw_okq (⟨"ThrownOverModel", "copy", "(II)V"⟩, 15) := ⟨⟨by decide +kernel, by decide +kernel⟩, List.mem_of_getElem? (i := 778) (by decide +kernel), List.mem_of_getElem? (i := 936) (by decide +kernel), List.mem_of_getElem? (i := 937) (by decide +kernel)⟩
theorem lw_p38 : lw_okq (⟨"ThrownOverModel", "isFree", "(I)Z"⟩, 15) := ⟨⟨by decide +kernel, by decide +kernel⟩, List.mem_of_getElem? (i := 778) (by decide +kernel), List.mem_of_getElem? (i := 944) (by decide +kernel), List.mem_of_getElem? (i := 945) (by decide +kernel)⟩
theorem lw_p39 : lw_okq (⟨"ThrownOverModel", "no", "()I"⟩, 15) := ⟨⟨by decide +kernel, by decide +kernel⟩, List.mem_of_getElem? (i := 778) (by decide +kernel), List.mem_of_getElem? (i := 948) (by decide +kernel), List.mem_of_getElem? (i := 949) (by decide +kernel)⟩
theorem lw_p40 : lw_okq (⟨"ThrownOverModel", "madeGood", "(I)I"⟩, 15) := ⟨⟨by decide +kernel, by decide +kernel⟩, List.mem_of_getElem? (i := 778) (by decide +kernel), List.mem_of_getElem? (i := 952) (by decide +kernel), List.mem_of_getElem? (i := 953) (by decide +kernel)⟩
theorem lw_p41 : lw_okq (⟨"ThrownOverModel", "isAlive", "(II)Z"⟩, 15) := ⟨⟨by decide +kernel, by decide +kernel⟩, List.mem_of_getElem? (i := 778) (by decide +kernel), List.mem_of_getElem? (i := 978) (by decide +kernel), List.mem_of_getElem? (i := 979) (by decide +kernel)⟩
theorem lw_p42 : lw_okq (⟨"ThrownOverModel", "heavyOf", "(I)I"⟩, 15) := ⟨⟨by decide +kernel, by decide +kernel⟩, List.mem_of_getElem? (i := 778) (by decide +kernel), List.mem_of_getElem? (i := 982) (by decide +kernel), List.mem_of_getElem? (i := 983) (by decide +kernel)⟩
theorem lw_p43 : lw_okq (⟨"ThrownOverModel", "lossOf", "(I)I"⟩, 15) := ⟨⟨by decide +kernel, by decide +kernel⟩, List.mem_of_getElem? (i := 778) (by decide +kernel), List.mem_of_getElem? (i := 990) (by decide +kernel), List.mem_of_getElem? (i := 991) (by decide +kernel)⟩
theorem lw_p44 : lw_okq (⟨"ThrownOverModel", "bears", "(I)I"⟩, 15) := ⟨⟨by decide +kernel, by decide +kernel⟩, List.mem_of_getElem? (i := 778) (by decide +kernel), List.mem_of_getElem? (i := 994) (by decide +kernel), List.mem_of_getElem? (i := 995) (by decide +kernel)⟩
theorem lw_p45 : lw_okq (⟨"ThrownOverModel", "worthOf", "(I)I"⟩, 15) := ⟨⟨by decide +kernel, by decide +kernel⟩, List.mem_of_getElem? (i := 778) (by decide +kernel), List.mem_of_getElem? (i := 1001) (by decide +kernel), List.mem_of_getElem? (i := 1002) (by decide +kernel)⟩
theorem lw_p46 : lw_okq (⟨"ThrownOverModel", "whole", "()I"⟩, 15) := ⟨⟨by decide +kernel, by decide +kernel⟩, List.mem_of_getElem? (i := 778) (by decide +kernel), List.mem_of_getElem? (i := 1010) (by decide +kernel), List.mem_of_getElem? (i := 1011) (by decide +kernel)⟩
theorem lw_p47 : lw_okq (⟨"ThrownOverModel", "tellsPart", "(JJ)I"⟩, 15) := ⟨⟨by decide +kernel, by decide +kernel⟩, List.mem_of_getElem? (i := 778) (by decide +kernel), List.mem_of_getElem? (i := 1014) (by decide +kernel), List.mem_of_getElem? (i := 1015) (by decide +kernel)⟩
def lw_privs_3 : List (MethodName × Nat) := [(⟨"ThrownOverModel", "takesShip", "()Z"⟩, 15), (⟨"ThrownOverModel", "takes", "(III)Z"⟩, 15), (⟨"ThrownOverModel", "takesGoods", "()Z"⟩, 15), (⟨"ThrownOverModel", "takesOver", "()Z"⟩, 15), (⟨"ThrownOverModel", "isTop", "(IIIII)Z"⟩, 15), (⟨"ThrownOverModel", "copy", "(II)V"⟩, 15), (⟨"ThrownOverModel", "isFree", "(I)Z"⟩, 15), (⟨"ThrownOverModel", "no", "()I"⟩, 15), (⟨"ThrownOverModel", "madeGood", "(I)I"⟩, 15), (⟨"ThrownOverModel", "isAlive", "(II)Z"⟩, 15), (⟨"ThrownOverModel", "heavyOf", "(I)I"⟩, 15), (⟨"ThrownOverModel", "lossOf", "(I)I"⟩, 15), (⟨"ThrownOverModel", "bears", "(I)I"⟩, 15), (⟨"ThrownOverModel", "worthOf", "(I)I"⟩, 15), (⟨"ThrownOverModel", "whole", "()I"⟩, 15), (⟨"ThrownOverModel", "tellsPart", "(JJ)I"⟩, 15)]
theorem lw_r3 : ∀ q ∈ lw_privs_3, lw_okq q := List.forall_mem_cons.mpr ⟨lw_p32, List.forall_mem_cons.mpr ⟨lw_p33, List.forall_mem_cons.mpr ⟨lw_p34, List.forall_mem_cons.mpr ⟨lw_p35, List.forall_mem_cons.mpr ⟨lw_p36, List.forall_mem_cons.mpr ⟨lw_p37, List.forall_mem_cons.mpr ⟨lw_p38, List.forall_mem_cons.mpr ⟨lw_p39, List.forall_mem_cons.mpr ⟨lw_p40, List.forall_mem_cons.mpr ⟨lw_p41, List.forall_mem_cons.mpr ⟨lw_p42, List.forall_mem_cons.mpr ⟨lw_p43, List.forall_mem_cons.mpr ⟨lw_p44, List.forall_mem_cons.mpr ⟨lw_p45, List.forall_mem_cons.mpr ⟨lw_p46, List.forall_mem_cons.mpr ⟨lw_p47, fun _ h => absurd h List.not_mem_nil⟩⟩⟩⟩⟩⟩⟩⟩⟩⟩⟩⟩⟩⟩⟩⟩
theorem lw_p48 : lw_okq (⟨"ThrownOverModel", "netOf", "(I)J"⟩, 15) := ⟨⟨by decide +kernel, by decide +kernel⟩, List.mem_of_getElem? (i := 778) (by decide +kernel), List.mem_of_getElem? (i := 1022) (by decide +kernel), List.mem_of_getElem? (i := 1023) (by decide +kernel)⟩
theorem lw_p49 : lw_okq (⟨"ThrownOverModel", "badAs", "(I)I"⟩, 15) := ⟨⟨by decide +kernel, by decide +kernel⟩, List.mem_of_getElem? (i := 778) (by decide +kernel), List.mem_of_getElem? (i := 1030) (by decide +kernel), List.mem_of_getElem? (i := 1031) (by decide +kernel)⟩
theorem lw_p50 : lw_okq (⟨"ThrownOverModel", "findLeast", "(IIII)V"⟩, 15) := ⟨⟨by decide +kernel, by decide +kernel⟩, List.mem_of_getElem? (i := 778) (by decide +kernel), List.mem_of_getElem? (i := 1034) (by decide +kernel), List.mem_of_getElem? (i := 1035) (by decide +kernel)⟩
theorem lw_p51 : lw_okq (⟨"ThrownOverModel", "canGo", "(IIII)Z"⟩, 15) := ⟨⟨by decide +kernel, by decide +kernel⟩, List.mem_of_getElem? (i := 778) (by decide +kernel), List.mem_of_getElem? (i := 1039) (by decide +kernel), List.mem_of_getElem? (i := 1040) (by decide +kernel)⟩
theorem lw_p52 : lw_okq (⟨"ThrownOverModel", "thrownSet", "()I"⟩, 15) := ⟨⟨by decide +kernel, by decide +kernel⟩, List.mem_of_getElem? (i := 778) (by decide +kernel), List.mem_of_getElem? (i := 1047) (by decide +kernel), List.mem_of_getElem? (i := 1048) (by decide +kernel)⟩
theorem lw_p53 : lw_okq (⟨"ThrownOverModel", "countOf", "(I)I"⟩, 15) := ⟨⟨by decide +kernel, by decide +kernel⟩, List.mem_of_getElem? (i := 778) (by decide +kernel), List.mem_of_getElem? (i := 1126) (by decide +kernel), List.mem_of_getElem? (i := 1127) (by decide +kernel)⟩
theorem lw_p54 : lw_okq (⟨"ThrownOverModel", "mix", "(J)V"⟩, 15) := ⟨⟨by decide +kernel, by decide +kernel⟩, List.mem_of_getElem? (i := 778) (by decide +kernel), List.mem_of_getElem? (i := 1135) (by decide +kernel), List.mem_of_getElem? (i := 1136) (by decide +kernel)⟩
def lw_privs_4 : List (MethodName × Nat) := [(⟨"ThrownOverModel", "netOf", "(I)J"⟩, 15), (⟨"ThrownOverModel", "badAs", "(I)I"⟩, 15), (⟨"ThrownOverModel", "findLeast", "(IIII)V"⟩, 15), (⟨"ThrownOverModel", "canGo", "(IIII)Z"⟩, 15), (⟨"ThrownOverModel", "thrownSet", "()I"⟩, 15), (⟨"ThrownOverModel", "countOf", "(I)I"⟩, 15), (⟨"ThrownOverModel", "mix", "(J)V"⟩, 15)]
theorem lw_r4 : ∀ q ∈ lw_privs_4, lw_okq q := List.forall_mem_cons.mpr ⟨lw_p48, List.forall_mem_cons.mpr ⟨lw_p49, List.forall_mem_cons.mpr ⟨lw_p50, List.forall_mem_cons.mpr ⟨lw_p51, List.forall_mem_cons.mpr ⟨lw_p52, List.forall_mem_cons.mpr ⟨lw_p53, List.forall_mem_cons.mpr ⟨lw_p54, fun _ h => absurd h List.not_mem_nil⟩⟩⟩⟩⟩⟩⟩
def lw_privs : List (MethodName × Nat) := lw_privs_1 ++ (lw_privs_2 ++ (lw_privs_3 ++ (lw_privs_4)))
def lw_tbl : List Cond := k2_sels lw_privs ++ tables_1
theorem lw_privs_ok : ∀ q ∈ lw_privs, lw_okq q := by
  show ∀ q ∈ lw_privs_1 ++ (lw_privs_2 ++ (lw_privs_3 ++ (lw_privs_4))), lw_okq q
  exact List.forall_mem_append.mpr ⟨lw_r1, List.forall_mem_append.mpr ⟨lw_r2, List.forall_mem_append.mpr ⟨lw_r3, lw_r4⟩⟩⟩
-- ===== end of PART A; then your names; then what follows =====
def RX0 : String := "ThrownOver$Bill"
def TX0 : u_T := fun k => match k with
  | 0 => ("ThrownOver$Bill", "kinds", "[LThrownOver$PlainKind;", true)
  | 1 => ("ThrownOver$Bill", "loss", "I", false)
  | 2 => ("ThrownOver$Bill", "whole", "I", false)
  | 3 => ("ThrownOver$Bill", "own", "I", false)
  | _ => ("ThrownOver$Bill", "ownMadeGood", "I", false)
def tyX0 : Nat → FieldType := fun k => match k with
  | 0 => .array (.object "ThrownOver$PlainKind")
  | 1 => .int
  | 2 => .int
  | 3 => .int
  | _ => .int
abbrev wsX00 : List Cond := u_ws RX0 TX0 5
theorem nmX0 : ∀ a, a < 5 → ∀ b, b < 5 → a ≠ b → (TX0 a).2.1 ≠ (TX0 b).2.1 := by decide +kernel
theorem tyX0_ok : ∀ k, k < 5 → parseFieldDescriptor (TX0 k).2.2.1 = some (tyX0 k) := by decide +kernel
abbrev cX0_init : ByteArray := prog_2_method_1_code
def yX0_init : MethodName := ⟨RX0, "<init>", "()V"⟩
abbrev cX0_reckon : ByteArray := prog_2_method_2_code
def yX0_reckon : MethodName := ⟨RX0, "reckon", "(LThrownOver$Cargo;I)V"⟩
abbrev cX0_reckonMarked : ByteArray := prog_2_method_3_code
def yX0_reckonMarked : MethodName := ⟨RX0, "reckonMarked", "(LThrownOver$Cargo;II)V"⟩
abbrev cX0_begin : ByteArray := prog_2_method_4_code
def yX0_begin : MethodName := ⟨RX0, "begin", "(LThrownOver$Cargo;I)V"⟩
abbrev cX0_enter : ByteArray := prog_2_method_5_code
def yX0_enter : MethodName := ⟨RX0, "enter", "(LThrownOver$Cargo;III)V"⟩
abbrev cX0_kindOf : ByteArray := prog_2_method_6_code
def yX0_kindOf : MethodName := ⟨RX0, "kindOf", "(LThrownOver$Cargo;I)LThrownOver$PlainKind;"⟩
abbrev cX0_madeGoodOf : ByteArray := prog_2_method_7_code
def yX0_madeGoodOf : MethodName := ⟨RX0, "madeGoodOf", "(LThrownOver$Cargo;I)I"⟩
abbrev cX0_below : ByteArray := prog_2_method_8_code
def yX0_below : MethodName := ⟨RX0, "below", "()J"⟩
abbrev cX0_shareAbove : ByteArray := prog_2_method_9_code
def yX0_shareAbove : MethodName := ⟨RX0, "shareAbove", "()J"⟩
abbrev cX0_netAbove : ByteArray := prog_2_method_10_code
def yX0_netAbove : MethodName := ⟨RX0, "netAbove", "()J"⟩
def RX1 : String := "ThrownOver$Cargo"
def TX1 : u_T := fun k => match k with
  | 0 => ("ThrownOver$Cargo", "shipWorth", "I", false)
  | 1 => ("ThrownOver$Cargo", "carries", "I", false)
  | 2 => ("ThrownOver$Cargo", "size", "I", false)
  | 3 => ("ThrownOver$Cargo", "aboard", "I", false)
  | 4 => ("ThrownOver$Cargo", "undoable", "I", false)
  | 5 => ("ThrownOver$Cargo", "sightings", "I", false)
  | 6 => ("ThrownOver$Cargo", "facts", "[I", true)
  | 7 => ("ThrownOver$Cargo", "heaved", "[I", true)
  | _ => ("ThrownOver$Cargo", "sights", "[I", true)
def tyX1 : Nat → FieldType := fun k => match k with
  | 0 => .int
  | 1 => .int
  | 2 => .int
  | 3 => .int
  | 4 => .int
  | 5 => .int
  | 6 => .array .int
  | 7 => .array .int
  | _ => .array .int
abbrev wsX10 : List Cond := u_ws RX1 TX1 9
theorem nmX1 : ∀ a, a < 9 → ∀ b, b < 9 → a ≠ b → (TX1 a).2.1 ≠ (TX1 b).2.1 := by decide +kernel
theorem tyX1_ok : ∀ k, k < 9 → parseFieldDescriptor (TX1 k).2.2.1 = some (tyX1 k) := by decide +kernel
abbrev cX1_init : ByteArray := prog_3_method_1_code
def yX1_init : MethodName := ⟨RX1, "<init>", "()V"⟩
abbrev cX1_restart : ByteArray := prog_3_method_2_code
def yX1_restart : MethodName := ⟨RX1, "restart", "(II)V"⟩
abbrev cX1_become : ByteArray := prog_3_method_3_code
def yX1_become : MethodName := ⟨RX1, "become", "(LThrownOver$Cargo;)V"⟩
abbrev cX1_has : ByteArray := prog_3_method_4_code
def yX1_has : MethodName := ⟨RX1, "has", "(I)Z"⟩
abbrev cX1_fact : ByteArray := prog_3_method_5_code
def yX1_fact : MethodName := ⟨RX1, "fact", "(II)I"⟩
abbrev cX1_sighted : ByteArray := prog_3_method_6_code
def yX1_sighted : MethodName := ⟨RX1, "sighted", "(II)I"⟩
abbrev cX1_load : ByteArray := prog_3_method_7_code
def yX1_load : MethodName := ⟨RX1, "load", "([I)I"⟩
abbrev cX1_retell : ByteArray := prog_3_method_8_code
def yX1_retell : MethodName := ⟨RX1, "retell", "(II)V"⟩
abbrev cX1_sight : ByteArray := prog_3_method_9_code
def yX1_sight : MethodName := ⟨RX1, "sight", "([I)Z"⟩
abbrev cX1_heave : ByteArray := prog_3_method_10_code
def yX1_heave : MethodName := ⟨RX1, "heave", "(I)V"⟩
abbrev cX1_takeBack : ByteArray := prog_3_method_11_code
def yX1_takeBack : MethodName := ⟨RX1, "takeBack", "()Z"⟩
abbrev cX1_isTop : ByteArray := prog_3_method_12_code
def yX1_isTop : MethodName := ⟨RX1, "isTop", "(II)Z"⟩
abbrev cX1_firstTop : ByteArray := prog_3_method_13_code
def yX1_firstTop : MethodName := ⟨RX1, "firstTop", "(II)I"⟩
abbrev cX1_total : ByteArray := prog_3_method_14_code
def yX1_total : MethodName := ⟨RX1, "total", "(II)I"⟩
abbrev cX1_outlives : ByteArray := prog_3_method_15_code
def yX1_outlives : MethodName := ⟨RX1, "outlives", "(II)Z"⟩
abbrev cX1_gone : ByteArray := prog_3_method_16_code
def yX1_gone : MethodName := ⟨RX1, "gone", "()I"⟩
abbrev cX1_fitting : ByteArray := prog_3_method_17_code
def yX1_fitting : MethodName := ⟨RX1, "fitting", "()I"⟩
abbrev cX1_fitsAll : ByteArray := prog_3_method_18_code
def yX1_fitsAll : MethodName := ⟨RX1, "fitsAll", "(I)Z"⟩
abbrev cX1_countWith : ByteArray := prog_3_method_19_code
def yX1_countWith : MethodName := ⟨RX1, "countWith", "(III)I"⟩
def RX2 : String := "ThrownOver$DeckKind"
def TX2 : u_T := fun k => match k with
  | _ => ("", "", "", false)
def tyX2 : Nat → FieldType := fun k => match k with
  | _ => .int
abbrev wsX20 : List Cond := u_ws RX2 TX2 0
theorem nmX2 : ∀ a, a < 0 → ∀ b, b < 0 → a ≠ b → (TX2 a).2.1 ≠ (TX2 b).2.1 := by decide +kernel
theorem tyX2_ok : ∀ k, k < 0 → parseFieldDescriptor (TX2 k).2.2.1 = some (tyX2 k) := by decide +kernel
abbrev cX2_init : ByteArray := prog_4_method_1_code
def yX2_init : MethodName := ⟨RX2, "<init>", "()V"⟩
abbrev cX2_madeGood : ByteArray := prog_4_method_2_code
def yX2_madeGood : MethodName := ⟨RX2, "madeGood", "(I)I"⟩
def RX3 : String := "ThrownOver$Fraction"
def TX3 : u_T := fun k => match k with
  | 0 => ("ThrownOver$Fraction", "above", "J", false)
  | _ => ("ThrownOver$Fraction", "below", "J", false)
def tyX3 : Nat → FieldType := fun k => match k with
  | 0 => .long
  | _ => .long
abbrev wsX30 : List Cond := u_ws RX3 TX3 2
theorem nmX3 : ∀ a, a < 2 → ∀ b, b < 2 → a ≠ b → (TX3 a).2.1 ≠ (TX3 b).2.1 := by decide +kernel
theorem tyX3_ok : ∀ k, k < 2 → parseFieldDescriptor (TX3 k).2.2.1 = some (tyX3 k) := by decide +kernel
abbrev cX3_init : ByteArray := prog_5_method_1_code
def yX3_init : MethodName := ⟨RX3, "<init>", "()V"⟩
abbrev cX3_become : ByteArray := prog_5_method_2_code
def yX3_become : MethodName := ⟨RX3, "become", "(JJ)V"⟩
abbrev cX3_greatestCommon : ByteArray := prog_5_method_3_code
def yX3_greatestCommon : MethodName := ⟨RX3, "greatestCommon", "(JJ)J"⟩
def RX4 : String := "ThrownOver$HabitKind"
def TX4 : u_T := fun k => match k with
  | _ => ("", "", "", false)
def tyX4 : Nat → FieldType := fun k => match k with
  | _ => .int
abbrev wsX40 : List Cond := u_ws RX4 TX4 0
theorem nmX4 : ∀ a, a < 0 → ∀ b, b < 0 → a ≠ b → (TX4 a).2.1 ≠ (TX4 b).2.1 := by decide +kernel
theorem tyX4_ok : ∀ k, k < 0 → parseFieldDescriptor (TX4 k).2.2.1 = some (tyX4 k) := by decide +kernel
abbrev cX4_init : ByteArray := prog_6_method_1_code
def yX4_init : MethodName := ⟨RX4, "<init>", "()V"⟩
abbrev cX4_madeGood : ByteArray := prog_6_method_2_code
def yX4_madeGood : MethodName := ⟨RX4, "madeGood", "(I)I"⟩
abbrev cX4_bears : ByteArray := prog_6_method_3_code
def yX4_bears : MethodName := ⟨RX4, "bears", "(I)I"⟩
def RX5 : String := "ThrownOver$JewelKind"
def TX5 : u_T := fun k => match k with
  | _ => ("", "", "", false)
def tyX5 : Nat → FieldType := fun k => match k with
  | _ => .int
abbrev wsX50 : List Cond := u_ws RX5 TX5 0
theorem nmX5 : ∀ a, a < 0 → ∀ b, b < 0 → a ≠ b → (TX5 a).2.1 ≠ (TX5 b).2.1 := by decide +kernel
theorem tyX5_ok : ∀ k, k < 0 → parseFieldDescriptor (TX5 k).2.2.1 = some (tyX5 k) := by decide +kernel
abbrev cX5_init : ByteArray := prog_7_method_1_code
def yX5_init : MethodName := ⟨RX5, "<init>", "()V"⟩
abbrev cX5_bears : ByteArray := prog_7_method_2_code
def yX5_bears : MethodName := ⟨RX5, "bears", "(I)I"⟩
def RX6 : String := "ThrownOver$LeastSearch"
def TX6 : u_T := fun k => match k with
  | 0 => ("ThrownOver$LeastSearch", "height", "[I", true)
  | 1 => ("ThrownOver$LeastSearch", "bits", "[I", true)
  | 2 => ("ThrownOver$LeastSearch", "heavy", "[I", true)
  | 3 => ("ThrownOver$LeastSearch", "worth", "[I", true)
  | 4 => ("ThrownOver$LeastSearch", "toShed", "I", false)
  | 5 => ("ThrownOver$LeastSearch", "bestBits", "I", false)
  | 6 => ("ThrownOver$LeastSearch", "bestCount", "I", false)
  | _ => ("ThrownOver$LeastSearch", "bestWorth", "I", false)
def tyX6 : Nat → FieldType := fun k => match k with
  | 0 => .array .int
  | 1 => .array .int
  | 2 => .array .int
  | 3 => .array .int
  | 4 => .int
  | 5 => .int
  | 6 => .int
  | _ => .int
abbrev wsX60 : List Cond := u_ws RX6 TX6 8
theorem nmX6 : ∀ a, a < 8 → ∀ b, b < 8 → a ≠ b → (TX6 a).2.1 ≠ (TX6 b).2.1 := by decide +kernel
theorem tyX6_ok : ∀ k, k < 8 → parseFieldDescriptor (TX6 k).2.2.1 = some (tyX6 k) := by decide +kernel
abbrev cX6_init : ByteArray := prog_8_method_1_code
def yX6_init : MethodName := ⟨RX6, "<init>", "()V"⟩
abbrev cX6_find : ByteArray := prog_8_method_2_code
def yX6_find : MethodName := ⟨RX6, "find", "(LThrownOver$Cargo;II)I"⟩
abbrev cX6_findStowed : ByteArray := prog_8_method_3_code
def yX6_findStowed : MethodName := ⟨RX6, "findStowed", "(LThrownOver$Cargo;III)I"⟩
abbrev cX6_pileUp : ByteArray := prog_8_method_4_code
def yX6_pileUp : MethodName := ⟨RX6, "pileUp", "(LThrownOver$Cargo;III)V"⟩
abbrev cX6_lay : ByteArray := prog_8_method_5_code
def yX6_lay : MethodName := ⟨RX6, "lay", "(LThrownOver$Cargo;II)V"⟩
abbrev cX6_choose : ByteArray := prog_8_method_6_code
def yX6_choose : MethodName := ⟨RX6, "choose", "(LThrownOver$Cargo;II)I"⟩
abbrev cX6_consider : ByteArray := prog_8_method_7_code
def yX6_consider : MethodName := ⟨RX6, "consider", "(III)V"⟩
abbrev cX6_keepIfBetter : ByteArray := prog_8_method_8_code
def yX6_keepIfBetter : MethodName := ⟨RX6, "keepIfBetter", "(III)V"⟩
abbrev cX6_isBetter : ByteArray := prog_8_method_9_code
def yX6_isBetter : MethodName := ⟨RX6, "isBetter", "(III)Z"⟩
def RX7 : String := "ThrownOver$MastKind"
def TX7 : u_T := fun k => match k with
  | _ => ("", "", "", false)
def tyX7 : Nat → FieldType := fun k => match k with
  | _ => .int
abbrev wsX70 : List Cond := u_ws RX7 TX7 0
theorem nmX7 : ∀ a, a < 0 → ∀ b, b < 0 → a ≠ b → (TX7 a).2.1 ≠ (TX7 b).2.1 := by decide +kernel
theorem tyX7_ok : ∀ k, k < 0 → parseFieldDescriptor (TX7 k).2.2.1 = some (tyX7 k) := by decide +kernel
abbrev cX7_init : ByteArray := prog_9_method_1_code
def yX7_init : MethodName := ⟨RX7, "<init>", "()V"⟩
abbrev cX7_madeGood : ByteArray := prog_9_method_2_code
def yX7_madeGood : MethodName := ⟨RX7, "madeGood", "(I)I"⟩
abbrev cX7_bears : ByteArray := prog_9_method_3_code
def yX7_bears : MethodName := ⟨RX7, "bears", "(I)I"⟩
def RX8 : String := "ThrownOver$PlainKind"
def TX8 : u_T := fun k => match k with
  | _ => ("", "", "", false)
def tyX8 : Nat → FieldType := fun k => match k with
  | _ => .int
abbrev wsX80 : List Cond := u_ws RX8 TX8 0
theorem nmX8 : ∀ a, a < 0 → ∀ b, b < 0 → a ≠ b → (TX8 a).2.1 ≠ (TX8 b).2.1 := by decide +kernel
theorem tyX8_ok : ∀ k, k < 0 → parseFieldDescriptor (TX8 k).2.2.1 = some (tyX8 k) := by decide +kernel
abbrev cX8_init : ByteArray := prog_10_method_1_code
def yX8_init : MethodName := ⟨RX8, "<init>", "()V"⟩
abbrev cX8_madeGood : ByteArray := prog_10_method_2_code
def yX8_madeGood : MethodName := ⟨RX8, "madeGood", "(I)I"⟩
abbrev cX8_bears : ByteArray := prog_10_method_3_code
def yX8_bears : MethodName := ⟨RX8, "bears", "(I)I"⟩
def RX9 : String := "ThrownOver$SpoiledKind"
def TX9 : u_T := fun k => match k with
  | _ => ("", "", "", false)
def tyX9 : Nat → FieldType := fun k => match k with
  | _ => .int
abbrev wsX90 : List Cond := u_ws RX9 TX9 0
theorem nmX9 : ∀ a, a < 0 → ∀ b, b < 0 → a ≠ b → (TX9 a).2.1 ≠ (TX9 b).2.1 := by decide +kernel
theorem tyX9_ok : ∀ k, k < 0 → parseFieldDescriptor (TX9 k).2.2.1 = some (tyX9 k) := by decide +kernel
abbrev cX9_init : ByteArray := prog_11_method_1_code
def yX9_init : MethodName := ⟨RX9, "<init>", "()V"⟩
abbrev cX9_madeGood : ByteArray := prog_11_method_2_code
def yX9_madeGood : MethodName := ⟨RX9, "madeGood", "(I)I"⟩
def RX10 : String := "ThrownOver$Text"
def TX10 : u_T := fun k => match k with
  | 0 => ("ThrownOver$Text", "bytes", "[B", true)
  | 1 => ("ThrownOver$Text", "numbers", "[I", true)
  | 2 => ("ThrownOver$Text", "length", "I", false)
  | 3 => ("ThrownOver$Text", "at", "I", false)
  | 4 => ("ThrownOver$Text", "start", "I", false)
  | 5 => ("ThrownOver$Text", "token", "I", false)
  | 6 => ("ThrownOver$Text", "number", "I", false)
  | 7 => ("ThrownOver$Text", "items", "I", false)
  | _ => ("ThrownOver$Text", "fault", "I", false)
def tyX10 : Nat → FieldType := fun k => match k with
  | 0 => .array .byte
  | 1 => .array .int
  | 2 => .int
  | 3 => .int
  | 4 => .int
  | 5 => .int
  | 6 => .int
  | 7 => .int
  | _ => .int
abbrev wsX100 : List Cond := u_ws RX10 TX10 9
theorem nmX10 : ∀ a, a < 9 → ∀ b, b < 9 → a ≠ b → (TX10 a).2.1 ≠ (TX10 b).2.1 := by decide +kernel
theorem tyX10_ok : ∀ k, k < 9 → parseFieldDescriptor (TX10 k).2.2.1 = some (tyX10 k) := by decide +kernel
abbrev cX10_init : ByteArray := prog_12_method_1_code
def yX10_init : MethodName := ⟨RX10, "<init>", "()V"⟩
abbrev cX10_append : ByteArray := prog_12_method_2_code
def yX10_append : MethodName := ⟨RX10, "append", "(I)Z"⟩
abbrev cX10_readInto : ByteArray := prog_12_method_3_code
def yX10_readInto : MethodName := ⟨RX10, "readInto", "(LThrownOver$Cargo;)I"⟩
abbrev cX10_readItem : ByteArray := prog_12_method_4_code
def yX10_readItem : MethodName := ⟨RX10, "readItem", "(LThrownOver$Cargo;)V"⟩
abbrev cX10_takeStop : ByteArray := prog_12_method_5_code
def yX10_takeStop : MethodName := ⟨RX10, "takeStop", "()V"⟩
abbrev cX10_takeNumbers : ByteArray := prog_12_method_6_code
def yX10_takeNumbers : MethodName := ⟨RX10, "takeNumbers", "([I[I)Z"⟩
abbrev cX10_takeOver : ByteArray := prog_12_method_7_code
def yX10_takeOver : MethodName := ⟨RX10, "takeOver", "(LThrownOver$Cargo;)V"⟩
abbrev cX10_step : ByteArray := prog_12_method_8_code
def yX10_step : MethodName := ⟨RX10, "step", "()V"⟩
abbrev cX10_takeWord : ByteArray := prog_12_method_9_code
def yX10_takeWord : MethodName := ⟨RX10, "takeWord", "()V"⟩
abbrev cX10_spells : ByteArray := prog_12_method_10_code
def yX10_spells : MethodName := ⟨RX10, "spells", "(Ljava/lang/String;)Z"⟩
abbrev cX10_takeFigures : ByteArray := prog_12_method_11_code
def yX10_takeFigures : MethodName := ⟨RX10, "takeFigures", "()V"⟩
abbrev cX10_byteAt : ByteArray := prog_12_method_12_code
def yX10_byteAt : MethodName := ⟨RX10, "byteAt", "(I)I"⟩
abbrev cX10_isLetter : ByteArray := prog_12_method_13_code
def yX10_isLetter : MethodName := ⟨RX10, "isLetter", "(I)Z"⟩
abbrev cX10_isFigure : ByteArray := prog_12_method_14_code
def yX10_isFigure : MethodName := ⟨RX10, "isFigure", "(I)Z"⟩
def RX11 : String := "ThrownOver"
def TX11 : u_T := fun k => match k with
  | 0 => ("ThrownOver", "cargo", "LThrownOver$Cargo;", true)
  | 1 => ("ThrownOver", "draft", "LThrownOver$Cargo;", true)
  | 2 => ("ThrownOver", "images", "[LThrownOver$Cargo;", true)
  | 3 => ("ThrownOver", "imagesKept", "I", false)
  | 4 => ("ThrownOver", "text", "LThrownOver$Text;", true)
  | 5 => ("ThrownOver", "bill", "LThrownOver$Bill;", true)
  | 6 => ("ThrownOver", "search", "LThrownOver$LeastSearch;", true)
  | 7 => ("ThrownOver", "fraction", "LThrownOver$Fraction;", true)
  | 8 => ("ThrownOver", "newShip", "[I", true)
  | 9 => ("ThrownOver", "newGoods", "[I", true)
  | 10 => ("ThrownOver", "newSeen", "[I", true)
  | 11 => ("ThrownOver", "badCalls", "I", false)
  | 12 => ("ThrownOver", "noCalls", "I", false)
  | _ => ("ThrownOver", "fullCalls", "I", false)
def tyX11 : Nat → FieldType := fun k => match k with
  | 0 => .object "ThrownOver$Cargo"
  | 1 => .object "ThrownOver$Cargo"
  | 2 => .array (.object "ThrownOver$Cargo")
  | 3 => .int
  | 4 => .object "ThrownOver$Text"
  | 5 => .object "ThrownOver$Bill"
  | 6 => .object "ThrownOver$LeastSearch"
  | 7 => .object "ThrownOver$Fraction"
  | 8 => .array .int
  | 9 => .array .int
  | 10 => .array .int
  | 11 => .int
  | 12 => .int
  | _ => .int
abbrev wsX110 : List Cond := u_ws RX11 TX11 14
theorem nmX11 : ∀ a, a < 14 → ∀ b, b < 14 → a ≠ b → (TX11 a).2.1 ≠ (TX11 b).2.1 := by decide +kernel
theorem tyX11_ok : ∀ k, k < 14 → parseFieldDescriptor (TX11 k).2.2.1 = some (tyX11 k) := by decide +kernel
abbrev cX11_init : ByteArray := prog_1_method_1_code
def yX11_init : MethodName := ⟨RX11, "<init>", "()V"⟩
abbrev cX11_ship : ByteArray := prog_1_method_2_code
def yX11_ship : MethodName := ⟨RX11, "ship", "(II)I"⟩
abbrev cX11_goods : ByteArray := prog_1_method_3_code
def yX11_goods : MethodName := ⟨RX11, "goods", "(IIIIII)I"⟩
abbrev cX11_tells : ByteArray := prog_1_method_4_code
def yX11_tells : MethodName := ⟨RX11, "tells", "(II)I"⟩
abbrev cX11_type : ByteArray := prog_1_method_5_code
def yX11_type : MethodName := ⟨RX11, "type", "(I)I"⟩
abbrev cX11_clear : ByteArray := prog_1_method_6_code
def yX11_clear : MethodName := ⟨RX11, "clear", "()I"⟩
abbrev cX11_read : ByteArray := prog_1_method_7_code
def yX11_read : MethodName := ⟨RX11, "read", "()I"⟩
abbrev cX11_over : ByteArray := prog_1_method_8_code
def yX11_over : MethodName := ⟨RX11, "over", "(I)I"⟩
abbrev cX11_undo : ByteArray := prog_1_method_9_code
def yX11_undo : MethodName := ⟨RX11, "undo", "()I"⟩
abbrev cX11_of : ByteArray := prog_1_method_10_code
def yX11_of : MethodName := ⟨RX11, "of", "(II)I"⟩
abbrev cX11_lives : ByteArray := prog_1_method_11_code
def yX11_lives : MethodName := ⟨RX11, "lives", "(I)I"⟩
abbrev cX11_now : ByteArray := prog_1_method_12_code
def yX11_now : MethodName := ⟨RX11, "now", "(I)I"⟩
abbrev cX11_share : ByteArray := prog_1_method_13_code
def yX11_share : MethodName := ⟨RX11, "share", "(I)I"⟩
abbrev cX11_net : ByteArray := prog_1_method_14_code
def yX11_net : MethodName := ⟨RX11, "net", "(I)I"⟩
abbrev cX11_least : ByteArray := prog_1_method_15_code
def yX11_least : MethodName := ⟨RX11, "least", "(II)I"⟩
abbrev cX11_needful : ByteArray := prog_1_method_16_code
def yX11_needful : MethodName := ⟨RX11, "needful", "(I)I"⟩
abbrev cX11_stow : ByteArray := prog_1_method_17_code
def yX11_stow : MethodName := ⟨RX11, "stow", "(II)I"⟩
abbrev cX11_tell : ByteArray := prog_1_method_18_code
def yX11_tell : MethodName := ⟨RX11, "tell", "(I)I"⟩
abbrev cX11_marked : ByteArray := prog_1_method_19_code
def yX11_marked : MethodName := ⟨RX11, "marked", "(II)I"⟩
abbrev cX11_seen : ByteArray := prog_1_method_20_code
def yX11_seen : MethodName := ⟨RX11, "seen", "(III)I"⟩
abbrev cX11_forget : ByteArray := prog_1_method_21_code
def yX11_forget : MethodName := ⟨RX11, "forget", "()I"⟩
abbrev cX11_barrel : ByteArray := prog_1_method_22_code
def yX11_barrel : MethodName := ⟨RX11, "barrel", "()I"⟩
abbrev cX11_whose : ByteArray := prog_1_method_23_code
def yX11_whose : MethodName := ⟨RX11, "whose", "()I"⟩
abbrev cX11_asks : ByteArray := prog_1_method_24_code
def yX11_asks : MethodName := ⟨RX11, "asks", "()I"⟩
abbrev cX11_odds : ByteArray := prog_1_method_25_code
def yX11_odds : MethodName := ⟨RX11, "odds", "(I)I"⟩
abbrev cX11_safe : ByteArray := prog_1_method_26_code
def yX11_safe : MethodName := ⟨RX11, "safe", "()I"⟩
abbrev cX11_voyages : ByteArray := prog_1_method_27_code
def yX11_voyages : MethodName := ⟨RX11, "voyages", "(II)I"⟩
abbrev cX11_part : ByteArray := prog_1_method_28_code
def yX11_part : MethodName := ⟨RX11, "part", "(I)J"⟩
abbrev cX11_image : ByteArray := prog_1_method_29_code
def yX11_image : MethodName := ⟨RX11, "image", "(I)I"⟩
abbrev cX11_from : ByteArray := prog_1_method_30_code
def yX11_from : MethodName := ⟨RX11, "from", "(I)I"⟩
abbrev cX11_status : ByteArray := prog_1_method_31_code
def yX11_status : MethodName := ⟨RX11, "status", "(I)I"⟩
abbrev cX11_count : ByteArray := prog_1_method_32_code
def yX11_count : MethodName := ⟨RX11, "count", "(I)I"⟩
abbrev cX11_digest : ByteArray := prog_1_method_33_code
def yX11_digest : MethodName := ⟨RX11, "digest", "()J"⟩
abbrev cX11_refuse : ByteArray := prog_1_method_34_code
def yX11_refuse : MethodName := ⟨RX11, "refuse", "(I)I"⟩
abbrev cX11_howMany : ByteArray := prog_1_method_35_code
def yX11_howMany : MethodName := ⟨RX11, "howMany", "(I)I"⟩
abbrev cX11_inOrder : ByteArray := prog_1_method_36_code
def yX11_inOrder : MethodName := ⟨RX11, "inOrder", "(II)I"⟩
abbrev cX11_isStorm : ByteArray := prog_1_method_37_code
def yX11_isStorm : MethodName := ⟨RX11, "isStorm", "(I)Z"⟩
abbrev cX11_within : ByteArray := prog_1_method_38_code
def yX11_within : MethodName := ⟨RX11, "within", "(III)Z"⟩
abbrev cX11_allWithin : ByteArray := prog_1_method_39_code
def yX11_allWithin : MethodName := ⟨RX11, "allWithin", "([I[I[I)Z"⟩
abbrev cX11_isIn : ByteArray := prog_1_method_40_code
def yX11_isIn : MethodName := ⟨RX11, "isIn", "(II)Z"⟩
def RX12 : String := "ThrownOverModel"
def TX12 : u_T := fun k => match k with
  | 0 => ("ThrownOverModel", "w", "[I", true)
  | 1 => ("ThrownOverModel", "isKept", "[Z", true)
  | 2 => ("ThrownOverModel", "text", "[I", true)
  | 3 => ("ThrownOverModel", "texted", "I", false)
  | 4 => ("ThrownOverModel", "refused", "[I", true)
  | 5 => ("ThrownOverModel", "above", "J", false)
  | 6 => ("ThrownOverModel", "below", "J", false)
  | 7 => ("ThrownOverModel", "at", "I", false)
  | 8 => ("ThrownOverModel", "start", "I", false)
  | 9 => ("ThrownOverModel", "isWord", "Z", false)
  | 10 => ("ThrownOverModel", "isFigures", "Z", false)
  | 11 => ("ThrownOverModel", "numbers", "[I", true)
  | 12 => ("ThrownOverModel", "leastSet", "I", false)
  | 13 => ("ThrownOverModel", "leastWorth", "I", false)
  | _ => ("ThrownOverModel", "h", "J", false)
def tyX12 : Nat → FieldType := fun k => match k with
  | 0 => .array .int
  | 1 => .array .boolean
  | 2 => .array .int
  | 3 => .int
  | 4 => .array .int
  | 5 => .long
  | 6 => .long
  | 7 => .int
  | 8 => .int
  | 9 => .boolean
  | 10 => .boolean
  | 11 => .array .int
  | 12 => .int
  | 13 => .int
  | _ => .long
abbrev wsX120 : List Cond := u_ws RX12 TX12 15
theorem nmX12 : ∀ a, a < 15 → ∀ b, b < 15 → a ≠ b → (TX12 a).2.1 ≠ (TX12 b).2.1 := by decide +kernel
theorem tyX12_ok : ∀ k, k < 15 → parseFieldDescriptor (TX12 k).2.2.1 = some (tyX12 k) := by decide +kernel
abbrev cX12_init : ByteArray := prog_14_method_1_code
def yX12_init : MethodName := ⟨RX12, "<init>", "()V"⟩
abbrev cX12_in : ByteArray := prog_14_method_3_code
def yX12_in : MethodName := ⟨RX12, "in", "(JJJ)Z"⟩
abbrev cX12_has : ByteArray := prog_14_method_4_code
def yX12_has : MethodName := ⟨RX12, "has", "(II)Z"⟩
abbrev cX12_ones : ByteArray := prog_14_method_5_code
def yX12_ones : MethodName := ⟨RX12, "ones", "(I)I"⟩
abbrev cX12_bad : ByteArray := prog_14_method_6_code
def yX12_bad : MethodName := ⟨RX12, "bad", "()I"⟩
abbrev cX12_badAs : ByteArray := prog_14_method_7_code
def yX12_badAs : MethodName := ⟨RX12, "badAs", "(I)I"⟩
abbrev cX12_no : ByteArray := prog_14_method_8_code
def yX12_no : MethodName := ⟨RX12, "no", "()I"⟩
abbrev cX12_full : ByteArray := prog_14_method_9_code
def yX12_full : MethodName := ⟨RX12, "full", "()I"⟩
abbrev cX12_copy : ByteArray := prog_14_method_10_code
def yX12_copy : MethodName := ⟨RX12, "copy", "(II)V"⟩
abbrev cX12_begins : ByteArray := prog_14_method_11_code
def yX12_begins : MethodName := ⟨RX12, "begins", "(III)V"⟩
abbrev cX12_isGoods : ByteArray := prog_14_method_12_code
def yX12_isGoods : MethodName := ⟨RX12, "isGoods", "(I)Z"⟩
abbrev cX12_isOwner : ByteArray := prog_14_method_13_code
def yX12_isOwner : MethodName := ⟨RX12, "isOwner", "(I)Z"⟩
abbrev cX12_isStorm : ByteArray := prog_14_method_14_code
def yX12_isStorm : MethodName := ⟨RX12, "isStorm", "(I)Z"⟩
abbrev cX12_ship : ByteArray := prog_14_method_15_code
def yX12_ship : MethodName := ⟨RX12, "ship", "(II)I"⟩
abbrev cX12_adds : ByteArray := prog_14_method_16_code
def yX12_adds : MethodName := ⟨RX12, "adds", "(IIIIIII)I"⟩
abbrev cX12_goods : ByteArray := prog_14_method_17_code
def yX12_goods : MethodName := ⟨RX12, "goods", "(IIIIII)I"⟩
abbrev cX12_tells : ByteArray := prog_14_method_18_code
def yX12_tells : MethodName := ⟨RX12, "tells", "(II)I"⟩
abbrev cX12_isTop : ByteArray := prog_14_method_19_code
def yX12_isTop : MethodName := ⟨RX12, "isTop", "(IIIII)Z"⟩
abbrev cX12_isFree : ByteArray := prog_14_method_20_code
def yX12_isFree : MethodName := ⟨RX12, "isFree", "(I)Z"⟩
abbrev cX12_type : ByteArray := prog_14_method_21_code
def yX12_type : MethodName := ⟨RX12, "type", "(I)I"⟩
abbrev cX12_clear : ByteArray := prog_14_method_22_code
def yX12_clear : MethodName := ⟨RX12, "clear", "()I"⟩
abbrev cX12_byteAt : ByteArray := prog_14_method_23_code
def yX12_byteAt : MethodName := ⟨RX12, "byteAt", "(I)I"⟩
abbrev cX12_token : ByteArray := prog_14_method_24_code
def yX12_token : MethodName := ⟨RX12, "token", "()V"⟩
abbrev cX12_isNamed : ByteArray := prog_14_method_25_code
def yX12_isNamed : MethodName := ⟨RX12, "isNamed", "(IIIII)Z"⟩
abbrev cX12_wordNow : ByteArray := prog_14_method_26_code
def yX12_wordNow : MethodName := ⟨RX12, "wordNow", "()I"⟩
abbrev cX12_takes : ByteArray := prog_14_method_27_code
def yX12_takes : MethodName := ⟨RX12, "takes", "(III)Z"⟩
abbrev cX12_takesShip : ByteArray := prog_14_method_28_code
def yX12_takesShip : MethodName := ⟨RX12, "takesShip", "()Z"⟩
abbrev cX12_takesGoods : ByteArray := prog_14_method_29_code
def yX12_takesGoods : MethodName := ⟨RX12, "takesGoods", "()Z"⟩
abbrev cX12_takesOver : ByteArray := prog_14_method_30_code
def yX12_takesOver : MethodName := ⟨RX12, "takesOver", "()Z"⟩
abbrev cX12_takesItem : ByteArray := prog_14_method_31_code
def yX12_takesItem : MethodName := ⟨RX12, "takesItem", "(I)Z"⟩
abbrev cX12_read : ByteArray := prog_14_method_32_code
def yX12_read : MethodName := ⟨RX12, "read", "()I"⟩
abbrev cX12_goodOf : ByteArray := prog_14_method_33_code
def yX12_goodOf : MethodName := ⟨RX12, "goodOf", "(II)I"⟩
abbrev cX12_bearsOf : ByteArray := prog_14_method_34_code
def yX12_bearsOf : MethodName := ⟨RX12, "bearsOf", "(II)I"⟩
abbrev cX12_madeGood : ByteArray := prog_14_method_35_code
def yX12_madeGood : MethodName := ⟨RX12, "madeGood", "(I)I"⟩
abbrev cX12_lossOf : ByteArray := prog_14_method_36_code
def yX12_lossOf : MethodName := ⟨RX12, "lossOf", "(I)I"⟩
abbrev cX12_bears : ByteArray := prog_14_method_37_code
def yX12_bears : MethodName := ⟨RX12, "bears", "(I)I"⟩
abbrev cX12_over : ByteArray := prog_14_method_38_code
def yX12_over : MethodName := ⟨RX12, "over", "(I)I"⟩
abbrev cX12_undo : ByteArray := prog_14_method_39_code
def yX12_undo : MethodName := ⟨RX12, "undo", "()I"⟩
abbrev cX12_of : ByteArray := prog_14_method_40_code
def yX12_of : MethodName := ⟨RX12, "of", "(II)I"⟩
abbrev cX12_heavyOf : ByteArray := prog_14_method_41_code
def yX12_heavyOf : MethodName := ⟨RX12, "heavyOf", "(I)I"⟩
abbrev cX12_worthOf : ByteArray := prog_14_method_42_code
def yX12_worthOf : MethodName := ⟨RX12, "worthOf", "(I)I"⟩
abbrev cX12_isAlive : ByteArray := prog_14_method_43_code
def yX12_isAlive : MethodName := ⟨RX12, "isAlive", "(II)Z"⟩
abbrev cX12_lives : ByteArray := prog_14_method_44_code
def yX12_lives : MethodName := ⟨RX12, "lives", "(I)I"⟩
abbrev cX12_now : ByteArray := prog_14_method_45_code
def yX12_now : MethodName := ⟨RX12, "now", "(I)I"⟩
abbrev cX12_tellsPart : ByteArray := prog_14_method_46_code
def yX12_tellsPart : MethodName := ⟨RX12, "tellsPart", "(JJ)I"⟩
abbrev cX12_whole : ByteArray := prog_14_method_47_code
def yX12_whole : MethodName := ⟨RX12, "whole", "()I"⟩
abbrev cX12_share : ByteArray := prog_14_method_48_code
def yX12_share : MethodName := ⟨RX12, "share", "(I)I"⟩
abbrev cX12_netOf : ByteArray := prog_14_method_49_code
def yX12_netOf : MethodName := ⟨RX12, "netOf", "(I)J"⟩
abbrev cX12_net : ByteArray := prog_14_method_50_code
def yX12_net : MethodName := ⟨RX12, "net", "(I)I"⟩
abbrev cX12_canGo : ByteArray := prog_14_method_51_code
def yX12_canGo : MethodName := ⟨RX12, "canGo", "(IIII)Z"⟩
abbrev cX12_findLeast : ByteArray := prog_14_method_52_code
def yX12_findLeast : MethodName := ⟨RX12, "findLeast", "(IIII)V"⟩
abbrev cX12_least : ByteArray := prog_14_method_53_code
def yX12_least : MethodName := ⟨RX12, "least", "(II)I"⟩
abbrev cX12_thrownSet : ByteArray := prog_14_method_54_code
def yX12_thrownSet : MethodName := ⟨RX12, "thrownSet", "()I"⟩
abbrev cX12_needful : ByteArray := prog_14_method_55_code
def yX12_needful : MethodName := ⟨RX12, "needful", "(I)I"⟩
abbrev cX12_stow : ByteArray := prog_14_method_56_code
def yX12_stow : MethodName := ⟨RX12, "stow", "(II)I"⟩
abbrev cX12_tell : ByteArray := prog_14_method_57_code
def yX12_tell : MethodName := ⟨RX12, "tell", "(I)I"⟩
abbrev cX12_marked : ByteArray := prog_14_method_58_code
def yX12_marked : MethodName := ⟨RX12, "marked", "(II)I"⟩
abbrev cX12_seen : ByteArray := prog_14_method_59_code
def yX12_seen : MethodName := ⟨RX12, "seen", "(III)I"⟩
abbrev cX12_forget : ByteArray := prog_14_method_60_code
def yX12_forget : MethodName := ⟨RX12, "forget", "()I"⟩
abbrev cX12_barrel : ByteArray := prog_14_method_61_code
def yX12_barrel : MethodName := ⟨RX12, "barrel", "()I"⟩
abbrev cX12_whose : ByteArray := prog_14_method_62_code
def yX12_whose : MethodName := ⟨RX12, "whose", "()I"⟩
abbrev cX12_asks : ByteArray := prog_14_method_63_code
def yX12_asks : MethodName := ⟨RX12, "asks", "()I"⟩
abbrev cX12_odds : ByteArray := prog_14_method_64_code
def yX12_odds : MethodName := ⟨RX12, "odds", "(I)I"⟩
abbrev cX12_safe : ByteArray := prog_14_method_65_code
def yX12_safe : MethodName := ⟨RX12, "safe", "()I"⟩
abbrev cX12_voyages : ByteArray := prog_14_method_66_code
def yX12_voyages : MethodName := ⟨RX12, "voyages", "(II)I"⟩
abbrev cX12_part : ByteArray := prog_14_method_67_code
def yX12_part : MethodName := ⟨RX12, "part", "(I)J"⟩
abbrev cX12_image : ByteArray := prog_14_method_68_code
def yX12_image : MethodName := ⟨RX12, "image", "(I)I"⟩
abbrev cX12_from : ByteArray := prog_14_method_69_code
def yX12_from : MethodName := ⟨RX12, "from", "(I)I"⟩
abbrev cX12_status : ByteArray := prog_14_method_70_code
def yX12_status : MethodName := ⟨RX12, "status", "(I)I"⟩
abbrev cX12_countOf : ByteArray := prog_14_method_71_code
def yX12_countOf : MethodName := ⟨RX12, "countOf", "(I)I"⟩
abbrev cX12_count : ByteArray := prog_14_method_72_code
def yX12_count : MethodName := ⟨RX12, "count", "(I)I"⟩
abbrev cX12_mix : ByteArray := prog_14_method_73_code
def yX12_mix : MethodName := ⟨RX12, "mix", "(J)V"⟩
abbrev cX12_digest : ByteArray := prog_14_method_74_code
def yX12_digest : MethodName := ⟨RX12, "digest", "()J"⟩
def RJ6 : String := "java/lang/Integer"
def TJ6 : u_T := fun k => match k with
  | _ => ("", "", "", false)
def tyJ6 : Nat → FieldType := fun k => match k with
  | _ => .int
abbrev wsJ60 : List Cond := u_ws RJ6 TJ6 0
theorem nmJ6 : ∀ a, a < 0 → ∀ b, b < 0 → a ≠ b → (TJ6 a).2.1 ≠ (TJ6 b).2.1 := by decide +kernel
theorem tyJ6_ok : ∀ k, k < 0 → parseFieldDescriptor (TJ6 k).2.2.1 = some (tyJ6 k) := by decide +kernel
abbrev cJ6_bitCount_0f7a4 : ByteArray := prog_15_method_49_code
def yJ6_bitCount_0f7a4 : MethodName := ⟨RJ6, "bitCount", "(I)I"⟩
def RJ9 : String := "java/lang/Math"
def TJ9 : u_T := fun k => match k with
  | _ => ("", "", "", false)
def tyJ9 : Nat → FieldType := fun k => match k with
  | _ => .int
abbrev wsJ90 : List Cond := u_ws RJ9 TJ9 0
theorem nmJ9 : ∀ a, a < 0 → ∀ b, b < 0 → a ≠ b → (TJ9 a).2.1 ≠ (TJ9 b).2.1 := by decide +kernel
theorem tyJ9_ok : ∀ k, k < 0 → parseFieldDescriptor (TJ9 k).2.2.1 = some (tyJ9 k) := by decide +kernel
abbrev cJ9_abs_067f4 : ByteArray := prog_16_method_61_code
def yJ9_abs_067f4 : MethodName := ⟨RJ9, "abs", "(J)J"⟩
abbrev cJ9_max_7cf53 : ByteArray := prog_16_method_65_code
def yJ9_max_7cf53 : MethodName := ⟨RJ9, "max", "(II)I"⟩
abbrev cJ9_min_7cf53 : ByteArray := prog_16_method_69_code
def yJ9_min_7cf53 : MethodName := ⟨RJ9, "min", "(II)I"⟩
def RJ0 : String := "java/lang/String"
def TJ0 : u_T := fun k => match k with
  | _ => ("", "", "", false)
def tyJ0 : Nat → FieldType := fun k => match k with
  | _ => .int
abbrev wsJ00 : List Cond := u_ws RJ0 TJ0 0
theorem nmJ0 : ∀ a, a < 0 → ∀ b, b < 0 → a ≠ b → (TJ0 a).2.1 ≠ (TJ0 b).2.1 := by decide +kernel
theorem tyJ0_ok : ∀ k, k < 0 → parseFieldDescriptor (TJ0 k).2.2.1 = some (tyJ0 k) := by decide +kernel
abbrev cJ0_length_8abf5 : ByteArray := prog_17_method_54_code
def yJ0_length_8abf5 : MethodName := ⟨RJ0, "length", "()I"⟩
abbrev cJ0_charAt_5068e : ByteArray := prog_17_method_56_code
def yJ0_charAt_5068e : MethodName := ⟨RJ0, "charAt", "(I)C"⟩
abbrev cJ0_coder_7d493 : ByteArray := prog_17_method_152_code
def yJ0_coder_7d493 : MethodName := ⟨RJ0, "coder", "()B"⟩
abbrev cJ0_isLatin1_aae02 : ByteArray := prog_17_method_154_code
def yJ0_isLatin1_aae02 : MethodName := ⟨RJ0, "isLatin1", "()Z"⟩
abbrev cJ0_checkIndex_df160 : ByteArray := prog_17_method_155_code
def yJ0_checkIndex_df160 : MethodName := ⟨RJ0, "checkIndex", "(II)V"⟩
def RJ1 : String := "java/lang/StringLatin1"
def TJ1 : u_T := fun k => match k with
  | _ => ("", "", "", false)
def tyJ1 : Nat → FieldType := fun k => match k with
  | _ => .int
abbrev wsJ10 : List Cond := u_ws RJ1 TJ1 0
theorem nmJ1 : ∀ a, a < 0 → ∀ b, b < 0 → a ≠ b → (TJ1 a).2.1 ≠ (TJ1 b).2.1 := by decide +kernel
theorem tyJ1_ok : ∀ k, k < 0 → parseFieldDescriptor (TJ1 k).2.2.1 = some (tyJ1 k) := by decide +kernel
abbrev cJ1_charAt_3b067 : ByteArray := prog_18_method_2_code
def yJ1_charAt_3b067 : MethodName := ⟨RJ1, "charAt", "([BI)C"⟩
def RJ2 : String := "java/lang/StringUTF16"
def TJ2 : u_T := fun k => match k with
  | _ => ("", "", "", false)
def tyJ2 : Nat → FieldType := fun k => match k with
  | _ => .int
abbrev wsJ20 : List Cond := u_ws RJ2 TJ2 0
theorem nmJ2 : ∀ a, a < 0 → ∀ b, b < 0 → a ≠ b → (TJ2 a).2.1 ≠ (TJ2 b).2.1 := by decide +kernel
theorem tyJ2_ok : ∀ k, k < 0 → parseFieldDescriptor (TJ2 k).2.2.1 = some (tyJ2 k) := by decide +kernel
abbrev cJ2_getChar_3b067 : ByteArray := prog_19_method_5_code
def yJ2_getChar_3b067 : MethodName := ⟨RJ2, "getChar", "([BI)C"⟩
abbrev cJ2_length_9d52b : ByteArray := prog_19_method_6_code
def yJ2_length_9d52b : MethodName := ⟨RJ2, "length", "([B)I"⟩
abbrev cJ2_charAt_3b067 : ByteArray := prog_19_method_83_code
def yJ2_charAt_3b067 : MethodName := ⟨RJ2, "charAt", "([BI)C"⟩
abbrev cJ2_checkIndex_2214a : ByteArray := prog_19_method_91_code
def yJ2_checkIndex_2214a : MethodName := ⟨RJ2, "checkIndex", "(I[B)V"⟩
def RJ10 : String := "java/lang/System"
def TJ10 : u_T := fun k => match k with
  | _ => ("", "", "", false)
def tyJ10 : Nat → FieldType := fun k => match k with
  | _ => .int
abbrev wsJ100 : List Cond := u_ws RJ10 TJ10 0
theorem nmJ10 : ∀ a, a < 0 → ∀ b, b < 0 → a ≠ b → (TJ10 a).2.1 ≠ (TJ10 b).2.1 := by decide +kernel
theorem tyJ10_ok : ∀ k, k < 0 → parseFieldDescriptor (TJ10 k).2.2.1 = some (tyJ10 k) := by decide +kernel
def RJ3 : String := "jdk/internal/util/Preconditions"
def TJ3 : u_T := fun k => match k with
  | _ => ("", "", "", false)
def tyJ3 : Nat → FieldType := fun k => match k with
  | _ => .int
abbrev wsJ30 : List Cond := u_ws RJ3 TJ3 0
theorem nmJ3 : ∀ a, a < 0 → ∀ b, b < 0 → a ≠ b → (TJ3 a).2.1 ≠ (TJ3 b).2.1 := by decide +kernel
theorem tyJ3_ok : ∀ k, k < 0 → parseFieldDescriptor (TJ3 k).2.2.1 = some (tyJ3 k) := by decide +kernel
abbrev cJ3_checkIndex_8e157 : ByteArray := prog_21_method_11_code
def yJ3_checkIndex_8e157 : MethodName := ⟨RJ3, "checkIndex", "(IILjava/util/function/BiFunction;)I"⟩
def RL : String := "ThrownOverLaw"
abbrev cL_law : ByteArray := code
def yL_law : MethodName := ⟨RL, "law", "([I)Z"⟩
abbrev vwCl : List vw_C := [(RX0, TX0, 5), (RX1, TX1, 9), (RX2, TX2, 0), (RX3, TX3, 2), (RX4, TX4, 0), (RX5, TX5, 0), (RX6, TX6, 8), (RX7, TX7, 0), (RX8, TX8, 0), (RX9, TX9, 0), (RX10, TX10, 9), (RX11, TX11, 14), (RX12, TX12, 15)]
end
section
theorem dX12_init_0 : decode cX12_init 0 = .ok (.aload_n 0, 1) := by decide +kernel
theorem dX12_init_1 : decode cX12_init 1 = .ok (.invokespecial 1, 3) := by decide +kernel
theorem dX12_init_4 : decode cX12_init 4 = .ok (.aload_n 0, 1) := by decide +kernel
theorem dX12_init_5 : decode cX12_init 5 = .ok (.sipush 320, 3) := by decide +kernel
theorem dX12_init_8 : decode cX12_init 8 = .ok (.newarray .int, 2) := by decide +kernel
theorem dX12_init_10 : decode cX12_init 10 = .ok (.putfield 7, 3) := by decide +kernel
theorem dX12_init_13 : decode cX12_init 13 = .ok (.aload_n 0, 1) := by decide +kernel
theorem dX12_init_14 : decode cX12_init 14 = .ok (.iconst 2, 1) := by decide +kernel
theorem dX12_init_15 : decode cX12_init 15 = .ok (.newarray .boolean, 2) := by decide +kernel
theorem dX12_init_17 : decode cX12_init 17 = .ok (.putfield 13, 3) := by decide +kernel
theorem dX12_init_20 : decode cX12_init 20 = .ok (.aload_n 0, 1) := by decide +kernel
theorem dX12_init_21 : decode cX12_init 21 = .ok (.sipush 150, 3) := by decide +kernel
theorem dX12_init_24 : decode cX12_init 24 = .ok (.newarray .int, 2) := by decide +kernel
theorem dX12_init_26 : decode cX12_init 26 = .ok (.putfield 17, 3) := by decide +kernel
theorem dX12_init_29 : decode cX12_init 29 = .ok (.aload_n 0, 1) := by decide +kernel
theorem dX12_init_30 : decode cX12_init 30 = .ok (.iconst 3, 1) := by decide +kernel
theorem dX12_init_31 : decode cX12_init 31 = .ok (.newarray .int, 2) := by decide +kernel
theorem dX12_init_33 : decode cX12_init 33 = .ok (.putfield 20, 3) := by decide +kernel
theorem dX12_init_36 : decode cX12_init 36 = .ok (.aload_n 0, 1) := by decide +kernel
theorem dX12_init_37 : decode cX12_init 37 = .ok (.lconst 1, 1) := by decide +kernel
theorem dX12_init_38 : decode cX12_init 38 = .ok (.putfield 23, 3) := by decide +kernel
theorem dX12_init_41 : decode cX12_init 41 = .ok (.aload_n 0, 1) := by decide +kernel
theorem dX12_init_42 : decode cX12_init 42 = .ok (.bipush 6, 2) := by decide +kernel
theorem dX12_init_44 : decode cX12_init 44 = .ok (.newarray .int, 2) := by decide +kernel
theorem dX12_init_46 : decode cX12_init 46 = .ok (.putfield 27, 3) := by decide +kernel
theorem dX12_init_49 : decode cX12_init 49 = .ok (.aload_n 0, 1) := by decide +kernel
theorem dX12_init_50 : decode cX12_init 50 = .ok (.iconst 0, 1) := by decide +kernel
theorem dX12_init_51 : decode cX12_init 51 = .ok (.bipush 20, 2) := by decide +kernel
theorem dX12_init_53 : decode cX12_init 53 = .ok (.bipush 60, 2) := by decide +kernel
theorem dX12_init_55 : decode cX12_init 55 = .ok (.invokevirtual 30, 3) := by decide +kernel
theorem dX12_init_58 : decode cX12_init 58 = .ok (.return_, 1) := by decide +kernel
theorem dX12_in_0 : decode cX12_in 0 = .ok (.lload_n 0, 1) := by decide +kernel
theorem dX12_in_1 : decode cX12_in 1 = .ok (.lload_n 2, 1) := by decide +kernel
theorem dX12_in_2 : decode cX12_in 2 = .ok (.lcmp, 1) := by decide +kernel
theorem dX12_in_3 : decode cX12_in 3 = .ok (.ifCond .lt 14, 3) := by decide +kernel
theorem dX12_in_6 : decode cX12_in 6 = .ok (.lload_n 0, 1) := by decide +kernel
theorem dX12_in_7 : decode cX12_in 7 = .ok (.lload 4, 2) := by decide +kernel
theorem dX12_in_9 : decode cX12_in 9 = .ok (.lcmp, 1) := by decide +kernel
theorem dX12_in_10 : decode cX12_in 10 = .ok (.ifCond .gt 7, 3) := by decide +kernel
theorem dX12_in_13 : decode cX12_in 13 = .ok (.iconst 1, 1) := by decide +kernel
theorem dX12_in_14 : decode cX12_in 14 = .ok (.goto 4, 3) := by decide +kernel
theorem dX12_in_17 : decode cX12_in 17 = .ok (.iconst 0, 1) := by decide +kernel
theorem dX12_in_18 : decode cX12_in 18 = .ok (.ireturn, 1) := by decide +kernel
theorem dX12_has_0 : decode cX12_has 0 = .ok (.iload_n 0, 1) := by decide +kernel
theorem dX12_has_1 : decode cX12_has 1 = .ok (.iload_n 1, 1) := by decide +kernel
theorem dX12_has_2 : decode cX12_has 2 = .ok (.ishr, 1) := by decide +kernel
theorem dX12_has_3 : decode cX12_has 3 = .ok (.iconst 1, 1) := by decide +kernel
theorem dX12_has_4 : decode cX12_has 4 = .ok (.iand, 1) := by decide +kernel
theorem dX12_has_5 : decode cX12_has 5 = .ok (.iconst 1, 1) := by decide +kernel
theorem dX12_has_6 : decode cX12_has 6 = .ok (.if_icmp .ne 7, 3) := by decide +kernel
theorem dX12_has_9 : decode cX12_has 9 = .ok (.iconst 1, 1) := by decide +kernel
theorem dX12_has_10 : decode cX12_has 10 = .ok (.goto 4, 3) := by decide +kernel
theorem dX12_has_13 : decode cX12_has 13 = .ok (.iconst 0, 1) := by decide +kernel
theorem dX12_has_14 : decode cX12_has 14 = .ok (.ireturn, 1) := by decide +kernel
theorem dX12_ones_0 : decode cX12_ones 0 = .ok (.iconst 0, 1) := by decide +kernel
theorem dX12_ones_1 : decode cX12_ones 1 = .ok (.istore_n 1, 1) := by decide +kernel
theorem dX12_ones_2 : decode cX12_ones 2 = .ok (.iconst 0, 1) := by decide +kernel
theorem dX12_ones_3 : decode cX12_ones 3 = .ok (.istore_n 2, 1) := by decide +kernel
theorem dX12_ones_4 : decode cX12_ones 4 = .ok (.iload_n 2, 1) := by decide +kernel
theorem dX12_ones_5 : decode cX12_ones 5 = .ok (.bipush 8, 2) := by decide +kernel
theorem dX12_ones_7 : decode cX12_ones 7 = .ok (.if_icmp .ge 17, 3) := by decide +kernel
theorem dX12_ones_10 : decode cX12_ones 10 = .ok (.iload_n 1, 1) := by decide +kernel
theorem dX12_ones_11 : decode cX12_ones 11 = .ok (.iload_n 0, 1) := by decide +kernel
theorem dX12_ones_12 : decode cX12_ones 12 = .ok (.iload_n 2, 1) := by decide +kernel
theorem dX12_ones_13 : decode cX12_ones 13 = .ok (.ishr, 1) := by decide +kernel
theorem dX12_ones_14 : decode cX12_ones 14 = .ok (.iconst 1, 1) := by decide +kernel
theorem dX12_ones_15 : decode cX12_ones 15 = .ok (.iand, 1) := by decide +kernel
theorem dX12_ones_16 : decode cX12_ones 16 = .ok (.iadd, 1) := by decide +kernel
theorem dX12_ones_17 : decode cX12_ones 17 = .ok (.istore_n 1, 1) := by decide +kernel
theorem dX12_ones_18 : decode cX12_ones 18 = .ok (.iinc 2 1, 3) := by decide +kernel
theorem dX12_ones_21 : decode cX12_ones 21 = .ok (.goto (-17), 3) := by decide +kernel
theorem dX12_ones_24 : decode cX12_ones 24 = .ok (.iload_n 1, 1) := by decide +kernel
theorem dX12_ones_25 : decode cX12_ones 25 = .ok (.ireturn, 1) := by decide +kernel
theorem dX12_bad_0 : decode cX12_bad 0 = .ok (.aload_n 0, 1) := by decide +kernel
theorem dX12_bad_1 : decode cX12_bad 1 = .ok (.getfield 20, 3) := by decide +kernel
theorem dX12_bad_4 : decode cX12_bad 4 = .ok (.iconst 0, 1) := by decide +kernel
theorem dX12_bad_5 : decode cX12_bad 5 = .ok (.dup2, 1) := by decide +kernel
theorem dX12_bad_6 : decode cX12_bad 6 = .ok (.iaload, 1) := by decide +kernel
theorem dX12_bad_7 : decode cX12_bad 7 = .ok (.iconst 1, 1) := by decide +kernel
theorem dX12_bad_8 : decode cX12_bad 8 = .ok (.iadd, 1) := by decide +kernel
theorem dX12_bad_9 : decode cX12_bad 9 = .ok (.iastore, 1) := by decide +kernel
theorem dX12_bad_10 : decode cX12_bad 10 = .ok (.bipush (-2), 2) := by decide +kernel
theorem dX12_bad_12 : decode cX12_bad 12 = .ok (.ireturn, 1) := by decide +kernel
theorem dX12_badAs_0 : decode cX12_badAs 0 = .ok (.aload_n 0, 1) := by decide +kernel
theorem dX12_badAs_1 : decode cX12_badAs 1 = .ok (.getfield 20, 3) := by decide +kernel
theorem dX12_badAs_4 : decode cX12_badAs 4 = .ok (.iconst 0, 1) := by decide +kernel
theorem dX12_badAs_5 : decode cX12_badAs 5 = .ok (.dup2, 1) := by decide +kernel
theorem dX12_badAs_6 : decode cX12_badAs 6 = .ok (.iaload, 1) := by decide +kernel
theorem dX12_badAs_7 : decode cX12_badAs 7 = .ok (.iconst 1, 1) := by decide +kernel
theorem dX12_badAs_8 : decode cX12_badAs 8 = .ok (.iadd, 1) := by decide +kernel
theorem dX12_badAs_9 : decode cX12_badAs 9 = .ok (.iastore, 1) := by decide +kernel
theorem dX12_badAs_10 : decode cX12_badAs 10 = .ok (.iload_n 1, 1) := by decide +kernel
theorem dX12_badAs_11 : decode cX12_badAs 11 = .ok (.ireturn, 1) := by decide +kernel
theorem dX12_no_0 : decode cX12_no 0 = .ok (.aload_n 0, 1) := by decide +kernel
theorem dX12_no_1 : decode cX12_no 1 = .ok (.getfield 20, 3) := by decide +kernel
theorem dX12_no_4 : decode cX12_no 4 = .ok (.iconst 1, 1) := by decide +kernel
theorem dX12_no_5 : decode cX12_no 5 = .ok (.dup2, 1) := by decide +kernel
theorem dX12_no_6 : decode cX12_no 6 = .ok (.iaload, 1) := by decide +kernel
theorem dX12_no_7 : decode cX12_no 7 = .ok (.iconst 1, 1) := by decide +kernel
theorem dX12_no_8 : decode cX12_no 8 = .ok (.iadd, 1) := by decide +kernel
theorem dX12_no_9 : decode cX12_no 9 = .ok (.iastore, 1) := by decide +kernel
theorem dX12_no_10 : decode cX12_no 10 = .ok (.bipush (-3), 2) := by decide +kernel
theorem dX12_no_12 : decode cX12_no 12 = .ok (.ireturn, 1) := by decide +kernel
theorem dX12_full_0 : decode cX12_full 0 = .ok (.aload_n 0, 1) := by decide +kernel
theorem dX12_full_1 : decode cX12_full 1 = .ok (.getfield 20, 3) := by decide +kernel
theorem dX12_full_4 : decode cX12_full 4 = .ok (.iconst 2, 1) := by decide +kernel
theorem dX12_full_5 : decode cX12_full 5 = .ok (.dup2, 1) := by decide +kernel
theorem dX12_full_6 : decode cX12_full 6 = .ok (.iaload, 1) := by decide +kernel
theorem dX12_full_7 : decode cX12_full 7 = .ok (.iconst 1, 1) := by decide +kernel
theorem dX12_full_8 : decode cX12_full 8 = .ok (.iadd, 1) := by decide +kernel
theorem dX12_full_9 : decode cX12_full 9 = .ok (.iastore, 1) := by decide +kernel
theorem dX12_full_10 : decode cX12_full 10 = .ok (.bipush (-4), 2) := by decide +kernel
theorem dX12_full_12 : decode cX12_full 12 = .ok (.ireturn, 1) := by decide +kernel
theorem dX12_copy_0 : decode cX12_copy 0 = .ok (.iconst 0, 1) := by decide +kernel
theorem dX12_copy_1 : decode cX12_copy 1 = .ok (.istore_n 3, 1) := by decide +kernel
theorem dX12_copy_2 : decode cX12_copy 2 = .ok (.iload_n 3, 1) := by decide +kernel
theorem dX12_copy_3 : decode cX12_copy 3 = .ok (.bipush 80, 2) := by decide +kernel
theorem dX12_copy_5 : decode cX12_copy 5 = .ok (.if_icmp .ge 25, 3) := by decide +kernel
theorem dX12_copy_8 : decode cX12_copy 8 = .ok (.aload_n 0, 1) := by decide +kernel
theorem dX12_copy_9 : decode cX12_copy 9 = .ok (.getfield 7, 3) := by decide +kernel
theorem dX12_copy_12 : decode cX12_copy 12 = .ok (.iload_n 2, 1) := by decide +kernel
theorem dX12_copy_13 : decode cX12_copy 13 = .ok (.iload_n 3, 1) := by decide +kernel
theorem dX12_copy_14 : decode cX12_copy 14 = .ok (.iadd, 1) := by decide +kernel
theorem dX12_copy_15 : decode cX12_copy 15 = .ok (.aload_n 0, 1) := by decide +kernel
theorem dX12_copy_16 : decode cX12_copy 16 = .ok (.getfield 7, 3) := by decide +kernel
theorem dX12_copy_19 : decode cX12_copy 19 = .ok (.iload_n 1, 1) := by decide +kernel
theorem dX12_copy_20 : decode cX12_copy 20 = .ok (.iload_n 3, 1) := by decide +kernel
theorem dX12_copy_21 : decode cX12_copy 21 = .ok (.iadd, 1) := by decide +kernel
theorem dX12_copy_22 : decode cX12_copy 22 = .ok (.iaload, 1) := by decide +kernel
theorem dX12_copy_23 : decode cX12_copy 23 = .ok (.iastore, 1) := by decide +kernel
theorem dX12_copy_24 : decode cX12_copy 24 = .ok (.iinc 3 1, 3) := by decide +kernel
theorem dX12_copy_27 : decode cX12_copy 27 = .ok (.goto (-25), 3) := by decide +kernel
theorem dX12_copy_30 : decode cX12_copy 30 = .ok (.return_, 1) := by decide +kernel
theorem dX12_begins_0 : decode cX12_begins 0 = .ok (.iconst 0, 1) := by decide +kernel
theorem dX12_begins_1 : decode cX12_begins 1 = .ok (.istore 4, 2) := by decide +kernel
theorem dX12_begins_3 : decode cX12_begins 3 = .ok (.iload 4, 2) := by decide +kernel
theorem dX12_begins_5 : decode cX12_begins 5 = .ok (.bipush 80, 2) := by decide +kernel
theorem dX12_begins_7 : decode cX12_begins 7 = .ok (.if_icmp .ge 19, 3) := by decide +kernel
theorem dX12_begins_10 : decode cX12_begins 10 = .ok (.aload_n 0, 1) := by decide +kernel
theorem dX12_begins_11 : decode cX12_begins 11 = .ok (.getfield 7, 3) := by decide +kernel
theorem dX12_begins_14 : decode cX12_begins 14 = .ok (.iload_n 1, 1) := by decide +kernel
theorem dX12_begins_15 : decode cX12_begins 15 = .ok (.iload 4, 2) := by decide +kernel
theorem dX12_begins_17 : decode cX12_begins 17 = .ok (.iadd, 1) := by decide +kernel
theorem dX12_begins_18 : decode cX12_begins 18 = .ok (.iconst 0, 1) := by decide +kernel
theorem dX12_begins_19 : decode cX12_begins 19 = .ok (.iastore, 1) := by decide +kernel
theorem dX12_begins_20 : decode cX12_begins 20 = .ok (.iinc 4 1, 3) := by decide +kernel
theorem dX12_begins_23 : decode cX12_begins 23 = .ok (.goto (-20), 3) := by decide +kernel
theorem dX12_begins_26 : decode cX12_begins 26 = .ok (.aload_n 0, 1) := by decide +kernel
theorem dX12_begins_27 : decode cX12_begins 27 = .ok (.getfield 7, 3) := by decide +kernel
theorem dX12_begins_30 : decode cX12_begins 30 = .ok (.iload_n 1, 1) := by decide +kernel
theorem dX12_begins_31 : decode cX12_begins 31 = .ok (.iconst 1, 1) := by decide +kernel
theorem dX12_begins_32 : decode cX12_begins 32 = .ok (.iadd, 1) := by decide +kernel
theorem dX12_begins_33 : decode cX12_begins 33 = .ok (.iload_n 2, 1) := by decide +kernel
theorem dX12_begins_34 : decode cX12_begins 34 = .ok (.iastore, 1) := by decide +kernel
theorem dX12_begins_35 : decode cX12_begins 35 = .ok (.aload_n 0, 1) := by decide +kernel
theorem dX12_begins_36 : decode cX12_begins 36 = .ok (.getfield 7, 3) := by decide +kernel
theorem dX12_begins_39 : decode cX12_begins 39 = .ok (.iload_n 1, 1) := by decide +kernel
theorem dX12_begins_40 : decode cX12_begins 40 = .ok (.iconst 2, 1) := by decide +kernel
theorem dX12_begins_41 : decode cX12_begins 41 = .ok (.iadd, 1) := by decide +kernel
theorem dX12_begins_42 : decode cX12_begins 42 = .ok (.iload_n 3, 1) := by decide +kernel
theorem dX12_begins_43 : decode cX12_begins 43 = .ok (.iastore, 1) := by decide +kernel
theorem dX12_begins_44 : decode cX12_begins 44 = .ok (.return_, 1) := by decide +kernel
theorem dX12_isGoods_0 : decode cX12_isGoods 0 = .ok (.iload_n 1, 1) := by decide +kernel
theorem dX12_isGoods_1 : decode cX12_isGoods 1 = .ok (.i2l, 1) := by decide +kernel
theorem dX12_isGoods_2 : decode cX12_isGoods 2 = .ok (.lconst 0, 1) := by decide +kernel
theorem dX12_isGoods_3 : decode cX12_isGoods 3 = .ok (.aload_n 0, 1) := by decide +kernel
theorem dX12_isGoods_4 : decode cX12_isGoods 4 = .ok (.getfield 7, 3) := by decide +kernel
theorem dX12_isGoods_7 : decode cX12_isGoods 7 = .ok (.iconst 0, 1) := by decide +kernel
theorem dX12_isGoods_8 : decode cX12_isGoods 8 = .ok (.iaload, 1) := by decide +kernel
theorem dX12_isGoods_9 : decode cX12_isGoods 9 = .ok (.iconst 1, 1) := by decide +kernel
theorem dX12_isGoods_10 : decode cX12_isGoods 10 = .ok (.isub, 1) := by decide +kernel
theorem dX12_isGoods_11 : decode cX12_isGoods 11 = .ok (.i2l, 1) := by decide +kernel
theorem dX12_isGoods_12 : decode cX12_isGoods 12 = .ok (.invokestatic 34, 3) := by decide +kernel
theorem dX12_isGoods_15 : decode cX12_isGoods 15 = .ok (.ireturn, 1) := by decide +kernel
theorem dX12_isOwner_0 : decode cX12_isOwner 0 = .ok (.iload_n 0, 1) := by decide +kernel
theorem dX12_isOwner_1 : decode cX12_isOwner 1 = .ok (.i2l, 1) := by decide +kernel
theorem dX12_isOwner_2 : decode cX12_isOwner 2 = .ok (.lconst 0, 1) := by decide +kernel
theorem dX12_isOwner_3 : decode cX12_isOwner 3 = .ok (.ldc2_w 38, 3) := by decide +kernel
theorem dX12_isOwner_6 : decode cX12_isOwner 6 = .ok (.invokestatic 34, 3) := by decide +kernel
theorem dX12_isOwner_9 : decode cX12_isOwner 9 = .ok (.ireturn, 1) := by decide +kernel
theorem dX12_isStorm_0 : decode cX12_isStorm 0 = .ok (.iload_n 0, 1) := by decide +kernel
theorem dX12_isStorm_1 : decode cX12_isStorm 1 = .ok (.i2l, 1) := by decide +kernel
theorem dX12_isStorm_2 : decode cX12_isStorm 2 = .ok (.lconst 0, 1) := by decide +kernel
theorem dX12_isStorm_3 : decode cX12_isStorm 3 = .ok (.ldc2_w 40, 3) := by decide +kernel
theorem dX12_isStorm_6 : decode cX12_isStorm 6 = .ok (.invokestatic 34, 3) := by decide +kernel
theorem dX12_isStorm_9 : decode cX12_isStorm 9 = .ok (.ireturn, 1) := by decide +kernel
theorem dX12_ship_0 : decode cX12_ship 0 = .ok (.iload_n 1, 1) := by decide +kernel
theorem dX12_ship_1 : decode cX12_ship 1 = .ok (.i2l, 1) := by decide +kernel
theorem dX12_ship_2 : decode cX12_ship 2 = .ok (.lconst 0, 1) := by decide +kernel
theorem dX12_ship_3 : decode cX12_ship 3 = .ok (.ldc2_w 42, 3) := by decide +kernel
theorem dX12_ship_6 : decode cX12_ship 6 = .ok (.invokestatic 34, 3) := by decide +kernel
theorem dX12_ship_9 : decode cX12_ship 9 = .ok (.ifCond .eq 15, 3) := by decide +kernel
theorem dX12_ship_12 : decode cX12_ship 12 = .ok (.iload_n 2, 1) := by decide +kernel
theorem dX12_ship_13 : decode cX12_ship 13 = .ok (.i2l, 1) := by decide +kernel
theorem dX12_ship_14 : decode cX12_ship 14 = .ok (.lconst 0, 1) := by decide +kernel
theorem dX12_ship_15 : decode cX12_ship 15 = .ok (.ldc2_w 40, 3) := by decide +kernel
theorem dX12_ship_18 : decode cX12_ship 18 = .ok (.invokestatic 34, 3) := by decide +kernel
theorem dX12_ship_21 : decode cX12_ship 21 = .ok (.ifCond .ne 8, 3) := by decide +kernel
theorem dX12_ship_24 : decode cX12_ship 24 = .ok (.aload_n 0, 1) := by decide +kernel
theorem dX12_ship_25 : decode cX12_ship 25 = .ok (.invokevirtual 44, 3) := by decide +kernel
theorem dX12_ship_28 : decode cX12_ship 28 = .ok (.ireturn, 1) := by decide +kernel
theorem dX12_ship_29 : decode cX12_ship 29 = .ok (.aload_n 0, 1) := by decide +kernel
theorem dX12_ship_30 : decode cX12_ship 30 = .ok (.getfield 7, 3) := by decide +kernel
theorem dX12_ship_33 : decode cX12_ship 33 = .ok (.iconst 0, 1) := by decide +kernel
theorem dX12_ship_34 : decode cX12_ship 34 = .ok (.iaload, 1) := by decide +kernel
theorem dX12_ship_35 : decode cX12_ship 35 = .ok (.istore_n 3, 1) := by decide +kernel
theorem dX12_ship_36 : decode cX12_ship 36 = .ok (.aload_n 0, 1) := by decide +kernel
theorem dX12_ship_37 : decode cX12_ship 37 = .ok (.iconst 0, 1) := by decide +kernel
theorem dX12_ship_38 : decode cX12_ship 38 = .ok (.iload_n 1, 1) := by decide +kernel
theorem dX12_ship_39 : decode cX12_ship 39 = .ok (.iload_n 2, 1) := by decide +kernel
theorem dX12_ship_40 : decode cX12_ship 40 = .ok (.invokevirtual 30, 3) := by decide +kernel
theorem dX12_ship_43 : decode cX12_ship 43 = .ok (.iload_n 3, 1) := by decide +kernel
theorem dX12_ship_44 : decode cX12_ship 44 = .ok (.ireturn, 1) := by decide +kernel
theorem dX12_adds_0 : decode cX12_adds 0 = .ok (.aload_n 0, 1) := by decide +kernel
theorem dX12_adds_1 : decode cX12_adds 1 = .ok (.getfield 7, 3) := by decide +kernel
theorem dX12_adds_4 : decode cX12_adds 4 = .ok (.iload_n 1, 1) := by decide +kernel
theorem dX12_adds_5 : decode cX12_adds 5 = .ok (.iconst 0, 1) := by decide +kernel
theorem dX12_adds_6 : decode cX12_adds 6 = .ok (.iadd, 1) := by decide +kernel
theorem dX12_adds_7 : decode cX12_adds 7 = .ok (.iaload, 1) := by decide +kernel
theorem dX12_adds_8 : decode cX12_adds 8 = .ok (.istore 8, 2) := by decide +kernel
theorem dX12_adds_10 : decode cX12_adds 10 = .ok (.aload_n 0, 1) := by decide +kernel
theorem dX12_adds_11 : decode cX12_adds 11 = .ok (.getfield 7, 3) := by decide +kernel
theorem dX12_adds_14 : decode cX12_adds 14 = .ok (.iload_n 1, 1) := by decide +kernel
theorem dX12_adds_15 : decode cX12_adds 15 = .ok (.bipush 6, 2) := by decide +kernel
theorem dX12_adds_17 : decode cX12_adds 17 = .ok (.iadd, 1) := by decide +kernel
theorem dX12_adds_18 : decode cX12_adds 18 = .ok (.iload 8, 2) := by decide +kernel
theorem dX12_adds_20 : decode cX12_adds 20 = .ok (.iadd, 1) := by decide +kernel
theorem dX12_adds_21 : decode cX12_adds 21 = .ok (.iload_n 2, 1) := by decide +kernel
theorem dX12_adds_22 : decode cX12_adds 22 = .ok (.iastore, 1) := by decide +kernel
theorem dX12_adds_23 : decode cX12_adds 23 = .ok (.aload_n 0, 1) := by decide +kernel
theorem dX12_adds_24 : decode cX12_adds 24 = .ok (.getfield 7, 3) := by decide +kernel
theorem dX12_adds_27 : decode cX12_adds 27 = .ok (.iload_n 1, 1) := by decide +kernel
theorem dX12_adds_28 : decode cX12_adds 28 = .ok (.bipush 14, 2) := by decide +kernel
theorem dX12_adds_30 : decode cX12_adds 30 = .ok (.iadd, 1) := by decide +kernel
theorem dX12_adds_31 : decode cX12_adds 31 = .ok (.iload 8, 2) := by decide +kernel
theorem dX12_adds_33 : decode cX12_adds 33 = .ok (.iadd, 1) := by decide +kernel
theorem dX12_adds_34 : decode cX12_adds 34 = .ok (.iload_n 3, 1) := by decide +kernel
theorem dX12_adds_35 : decode cX12_adds 35 = .ok (.iastore, 1) := by decide +kernel
theorem dX12_adds_36 : decode cX12_adds 36 = .ok (.aload_n 0, 1) := by decide +kernel
theorem dX12_adds_37 : decode cX12_adds 37 = .ok (.getfield 7, 3) := by decide +kernel
theorem dX12_adds_40 : decode cX12_adds 40 = .ok (.iload_n 1, 1) := by decide +kernel
theorem dX12_adds_41 : decode cX12_adds 41 = .ok (.bipush 22, 2) := by decide +kernel
theorem dX12_adds_43 : decode cX12_adds 43 = .ok (.iadd, 1) := by decide +kernel
theorem dX12_adds_44 : decode cX12_adds 44 = .ok (.iload 8, 2) := by decide +kernel
theorem dX12_adds_46 : decode cX12_adds 46 = .ok (.iadd, 1) := by decide +kernel
theorem dX12_adds_47 : decode cX12_adds 47 = .ok (.iload 4, 2) := by decide +kernel
theorem dX12_adds_49 : decode cX12_adds 49 = .ok (.iastore, 1) := by decide +kernel
theorem dX12_adds_50 : decode cX12_adds 50 = .ok (.aload_n 0, 1) := by decide +kernel
theorem dX12_adds_51 : decode cX12_adds 51 = .ok (.getfield 7, 3) := by decide +kernel
theorem dX12_adds_54 : decode cX12_adds 54 = .ok (.iload_n 1, 1) := by decide +kernel
theorem dX12_adds_55 : decode cX12_adds 55 = .ok (.bipush 30, 2) := by decide +kernel
theorem dX12_adds_57 : decode cX12_adds 57 = .ok (.iadd, 1) := by decide +kernel
theorem dX12_adds_58 : decode cX12_adds 58 = .ok (.iload 8, 2) := by decide +kernel
theorem dX12_adds_60 : decode cX12_adds 60 = .ok (.iadd, 1) := by decide +kernel
theorem dX12_adds_61 : decode cX12_adds 61 = .ok (.iload 5, 2) := by decide +kernel
theorem dX12_adds_63 : decode cX12_adds 63 = .ok (.iastore, 1) := by decide +kernel
theorem dX12_adds_64 : decode cX12_adds 64 = .ok (.aload_n 0, 1) := by decide +kernel
theorem dX12_adds_65 : decode cX12_adds 65 = .ok (.getfield 7, 3) := by decide +kernel
theorem dX12_adds_68 : decode cX12_adds 68 = .ok (.iload_n 1, 1) := by decide +kernel
theorem dX12_adds_69 : decode cX12_adds 69 = .ok (.bipush 38, 2) := by decide +kernel
theorem dX12_adds_71 : decode cX12_adds 71 = .ok (.iadd, 1) := by decide +kernel
theorem dX12_adds_72 : decode cX12_adds 72 = .ok (.iload 8, 2) := by decide +kernel
theorem dX12_adds_74 : decode cX12_adds 74 = .ok (.iadd, 1) := by decide +kernel
theorem dX12_adds_75 : decode cX12_adds 75 = .ok (.iload 6, 2) := by decide +kernel
theorem dX12_adds_77 : decode cX12_adds 77 = .ok (.iastore, 1) := by decide +kernel
theorem dX12_adds_78 : decode cX12_adds 78 = .ok (.aload_n 0, 1) := by decide +kernel
theorem dX12_adds_79 : decode cX12_adds 79 = .ok (.getfield 7, 3) := by decide +kernel
theorem dX12_adds_82 : decode cX12_adds 82 = .ok (.iload_n 1, 1) := by decide +kernel
theorem dX12_adds_83 : decode cX12_adds 83 = .ok (.bipush 46, 2) := by decide +kernel
theorem dX12_adds_85 : decode cX12_adds 85 = .ok (.iadd, 1) := by decide +kernel
theorem dX12_adds_86 : decode cX12_adds 86 = .ok (.iload 8, 2) := by decide +kernel
theorem dX12_adds_88 : decode cX12_adds 88 = .ok (.iadd, 1) := by decide +kernel
theorem dX12_adds_89 : decode cX12_adds 89 = .ok (.iload 7, 2) := by decide +kernel
theorem dX12_adds_91 : decode cX12_adds 91 = .ok (.iastore, 1) := by decide +kernel
theorem dX12_adds_92 : decode cX12_adds 92 = .ok (.aload_n 0, 1) := by decide +kernel
theorem dX12_adds_93 : decode cX12_adds 93 = .ok (.getfield 7, 3) := by decide +kernel
theorem dX12_adds_96 : decode cX12_adds 96 = .ok (.iload_n 1, 1) := by decide +kernel
theorem dX12_adds_97 : decode cX12_adds 97 = .ok (.iconst 5, 1) := by decide +kernel
theorem dX12_adds_98 : decode cX12_adds 98 = .ok (.iadd, 1) := by decide +kernel
theorem dX12_adds_99 : decode cX12_adds 99 = .ok (.dup2, 1) := by decide +kernel
theorem dX12_adds_100 : decode cX12_adds 100 = .ok (.iaload, 1) := by decide +kernel
theorem dX12_adds_101 : decode cX12_adds 101 = .ok (.iconst 1, 1) := by decide +kernel
theorem dX12_adds_102 : decode cX12_adds 102 = .ok (.iload 8, 2) := by decide +kernel
theorem dX12_adds_104 : decode cX12_adds 104 = .ok (.ishl, 1) := by decide +kernel
theorem dX12_adds_105 : decode cX12_adds 105 = .ok (.ior, 1) := by decide +kernel
theorem dX12_adds_106 : decode cX12_adds 106 = .ok (.iastore, 1) := by decide +kernel
theorem dX12_adds_107 : decode cX12_adds 107 = .ok (.aload_n 0, 1) := by decide +kernel
theorem dX12_adds_108 : decode cX12_adds 108 = .ok (.getfield 7, 3) := by decide +kernel
theorem dX12_adds_111 : decode cX12_adds 111 = .ok (.iload_n 1, 1) := by decide +kernel
theorem dX12_adds_112 : decode cX12_adds 112 = .ok (.iconst 0, 1) := by decide +kernel
theorem dX12_adds_113 : decode cX12_adds 113 = .ok (.iadd, 1) := by decide +kernel
theorem dX12_adds_114 : decode cX12_adds 114 = .ok (.dup2, 1) := by decide +kernel
theorem dX12_adds_115 : decode cX12_adds 115 = .ok (.iaload, 1) := by decide +kernel
theorem dX12_adds_116 : decode cX12_adds 116 = .ok (.iconst 1, 1) := by decide +kernel
theorem dX12_adds_117 : decode cX12_adds 117 = .ok (.iadd, 1) := by decide +kernel
theorem dX12_adds_118 : decode cX12_adds 118 = .ok (.iastore, 1) := by decide +kernel
theorem dX12_adds_119 : decode cX12_adds 119 = .ok (.iload 8, 2) := by decide +kernel
theorem dX12_adds_121 : decode cX12_adds 121 = .ok (.ireturn, 1) := by decide +kernel
theorem dX12_goods_0 : decode cX12_goods 0 = .ok (.iload_n 1, 1) := by decide +kernel
theorem dX12_goods_1 : decode cX12_goods 1 = .ok (.i2l, 1) := by decide +kernel
theorem dX12_goods_2 : decode cX12_goods 2 = .ok (.lconst 0, 1) := by decide +kernel
theorem dX12_goods_3 : decode cX12_goods 3 = .ok (.ldc2_w 48, 3) := by decide +kernel
theorem dX12_goods_6 : decode cX12_goods 6 = .ok (.invokestatic 34, 3) := by decide +kernel
theorem dX12_goods_9 : decode cX12_goods 9 = .ok (.ifCond .eq 61, 3) := by decide +kernel
theorem dX12_goods_12 : decode cX12_goods 12 = .ok (.iload_n 2, 1) := by decide +kernel
theorem dX12_goods_13 : decode cX12_goods 13 = .ok (.invokestatic 50, 3) := by decide +kernel
theorem dX12_goods_16 : decode cX12_goods 16 = .ok (.ifCond .eq 54, 3) := by decide +kernel
theorem dX12_goods_19 : decode cX12_goods 19 = .ok (.iload_n 3, 1) := by decide +kernel
theorem dX12_goods_20 : decode cX12_goods 20 = .ok (.i2l, 1) := by decide +kernel
theorem dX12_goods_21 : decode cX12_goods 21 = .ok (.lconst 0, 1) := by decide +kernel
theorem dX12_goods_22 : decode cX12_goods 22 = .ok (.ldc2_w 54, 3) := by decide +kernel
theorem dX12_goods_25 : decode cX12_goods 25 = .ok (.invokestatic 34, 3) := by decide +kernel
theorem dX12_goods_28 : decode cX12_goods 28 = .ok (.ifCond .eq 42, 3) := by decide +kernel
theorem dX12_goods_31 : decode cX12_goods 31 = .ok (.iload 4, 2) := by decide +kernel
theorem dX12_goods_33 : decode cX12_goods 33 = .ok (.i2l, 1) := by decide +kernel
theorem dX12_goods_34 : decode cX12_goods 34 = .ok (.lconst 1, 1) := by decide +kernel
theorem dX12_goods_35 : decode cX12_goods 35 = .ok (.ldc2_w 56, 3) := by decide +kernel
theorem dX12_goods_38 : decode cX12_goods 38 = .ok (.invokestatic 34, 3) := by decide +kernel
theorem dX12_goods_41 : decode cX12_goods 41 = .ok (.ifCond .eq 29, 3) := by decide +kernel
theorem dX12_goods_44 : decode cX12_goods 44 = .ok (.iload 5, 2) := by decide +kernel
theorem dX12_goods_46 : decode cX12_goods 46 = .ok (.i2l, 1) := by decide +kernel
theorem dX12_goods_47 : decode cX12_goods 47 = .ok (.lconst 0, 1) := by decide +kernel
theorem dX12_goods_48 : decode cX12_goods 48 = .ok (.ldc2_w 58, 3) := by decide +kernel
theorem dX12_goods_51 : decode cX12_goods 51 = .ok (.invokestatic 34, 3) := by decide +kernel
theorem dX12_goods_54 : decode cX12_goods 54 = .ok (.ifCond .eq 16, 3) := by decide +kernel
theorem dX12_goods_57 : decode cX12_goods 57 = .ok (.iload 6, 2) := by decide +kernel
theorem dX12_goods_59 : decode cX12_goods 59 = .ok (.i2l, 1) := by decide +kernel
theorem dX12_goods_60 : decode cX12_goods 60 = .ok (.lconst 0, 1) := by decide +kernel
theorem dX12_goods_61 : decode cX12_goods 61 = .ok (.ldc2_w 58, 3) := by decide +kernel
theorem dX12_goods_64 : decode cX12_goods 64 = .ok (.invokestatic 34, 3) := by decide +kernel
theorem dX12_goods_67 : decode cX12_goods 67 = .ok (.ifCond .ne 8, 3) := by decide +kernel
theorem dX12_goods_70 : decode cX12_goods 70 = .ok (.aload_n 0, 1) := by decide +kernel
theorem dX12_goods_71 : decode cX12_goods 71 = .ok (.invokevirtual 44, 3) := by decide +kernel
theorem dX12_goods_74 : decode cX12_goods 74 = .ok (.ireturn, 1) := by decide +kernel
theorem dX12_goods_75 : decode cX12_goods 75 = .ok (.aload_n 0, 1) := by decide +kernel
theorem dX12_goods_76 : decode cX12_goods 76 = .ok (.getfield 7, 3) := by decide +kernel
theorem dX12_goods_79 : decode cX12_goods 79 = .ok (.iconst 0, 1) := by decide +kernel
theorem dX12_goods_80 : decode cX12_goods 80 = .ok (.iaload, 1) := by decide +kernel
theorem dX12_goods_81 : decode cX12_goods 81 = .ok (.bipush 8, 2) := by decide +kernel
theorem dX12_goods_83 : decode cX12_goods 83 = .ok (.if_icmp .ne 8, 3) := by decide +kernel
theorem dX12_goods_86 : decode cX12_goods 86 = .ok (.aload_n 0, 1) := by decide +kernel
theorem dX12_goods_87 : decode cX12_goods 87 = .ok (.invokevirtual 60, 3) := by decide +kernel
theorem dX12_goods_90 : decode cX12_goods 90 = .ok (.ireturn, 1) := by decide +kernel
theorem dX12_goods_91 : decode cX12_goods 91 = .ok (.aload_n 0, 1) := by decide +kernel
theorem dX12_goods_92 : decode cX12_goods 92 = .ok (.getfield 7, 3) := by decide +kernel
theorem dX12_goods_95 : decode cX12_goods 95 = .ok (.iconst 4, 1) := by decide +kernel
theorem dX12_goods_96 : decode cX12_goods 96 = .ok (.iconst 0, 1) := by decide +kernel
theorem dX12_goods_97 : decode cX12_goods 97 = .ok (.iastore, 1) := by decide +kernel
theorem dX12_goods_98 : decode cX12_goods 98 = .ok (.aload_n 0, 1) := by decide +kernel
theorem dX12_goods_99 : decode cX12_goods 99 = .ok (.iconst 0, 1) := by decide +kernel
theorem dX12_goods_100 : decode cX12_goods 100 = .ok (.iload_n 1, 1) := by decide +kernel
theorem dX12_goods_101 : decode cX12_goods 101 = .ok (.iload_n 2, 1) := by decide +kernel
theorem dX12_goods_102 : decode cX12_goods 102 = .ok (.iload_n 3, 1) := by decide +kernel
theorem dX12_goods_103 : decode cX12_goods 103 = .ok (.iload 4, 2) := by decide +kernel
theorem dX12_goods_105 : decode cX12_goods 105 = .ok (.iload 5, 2) := by decide +kernel
theorem dX12_goods_107 : decode cX12_goods 107 = .ok (.iload 6, 2) := by decide +kernel
theorem dX12_goods_109 : decode cX12_goods 109 = .ok (.invokevirtual 63, 3) := by decide +kernel
theorem dX12_goods_112 : decode cX12_goods 112 = .ok (.ireturn, 1) := by decide +kernel
theorem dX12_tells_0 : decode cX12_tells 0 = .ok (.aload_n 0, 1) := by decide +kernel
theorem dX12_tells_1 : decode cX12_tells 1 = .ok (.iload_n 1, 1) := by decide +kernel
theorem dX12_tells_2 : decode cX12_tells 2 = .ok (.invokevirtual 67, 3) := by decide +kernel
theorem dX12_tells_5 : decode cX12_tells 5 = .ok (.ifCond .eq 15, 3) := by decide +kernel
theorem dX12_tells_8 : decode cX12_tells 8 = .ok (.iload_n 2, 1) := by decide +kernel
theorem dX12_tells_9 : decode cX12_tells 9 = .ok (.i2l, 1) := by decide +kernel
theorem dX12_tells_10 : decode cX12_tells 10 = .ok (.lconst 0, 1) := by decide +kernel
theorem dX12_tells_11 : decode cX12_tells 11 = .ok (.ldc2_w 58, 3) := by decide +kernel
theorem dX12_tells_14 : decode cX12_tells 14 = .ok (.invokestatic 34, 3) := by decide +kernel
theorem dX12_tells_17 : decode cX12_tells 17 = .ok (.ifCond .ne 8, 3) := by decide +kernel
theorem dX12_tells_20 : decode cX12_tells 20 = .ok (.aload_n 0, 1) := by decide +kernel
theorem dX12_tells_21 : decode cX12_tells 21 = .ok (.invokevirtual 44, 3) := by decide +kernel
theorem dX12_tells_24 : decode cX12_tells 24 = .ok (.ireturn, 1) := by decide +kernel
theorem dX12_tells_25 : decode cX12_tells 25 = .ok (.aload_n 0, 1) := by decide +kernel
theorem dX12_tells_26 : decode cX12_tells 26 = .ok (.getfield 7, 3) := by decide +kernel
theorem dX12_tells_29 : decode cX12_tells 29 = .ok (.bipush 46, 2) := by decide +kernel
theorem dX12_tells_31 : decode cX12_tells 31 = .ok (.iload_n 1, 1) := by decide +kernel
theorem dX12_tells_32 : decode cX12_tells 32 = .ok (.iadd, 1) := by decide +kernel
theorem dX12_tells_33 : decode cX12_tells 33 = .ok (.iaload, 1) := by decide +kernel
theorem dX12_tells_34 : decode cX12_tells 34 = .ok (.istore_n 3, 1) := by decide +kernel
theorem dX12_tells_35 : decode cX12_tells 35 = .ok (.aload_n 0, 1) := by decide +kernel
theorem dX12_tells_36 : decode cX12_tells 36 = .ok (.getfield 7, 3) := by decide +kernel
theorem dX12_tells_39 : decode cX12_tells 39 = .ok (.bipush 46, 2) := by decide +kernel
theorem dX12_tells_41 : decode cX12_tells 41 = .ok (.iload_n 1, 1) := by decide +kernel
theorem dX12_tells_42 : decode cX12_tells 42 = .ok (.iadd, 1) := by decide +kernel
theorem dX12_tells_43 : decode cX12_tells 43 = .ok (.iload_n 2, 1) := by decide +kernel
theorem dX12_tells_44 : decode cX12_tells 44 = .ok (.iastore, 1) := by decide +kernel
theorem dX12_tells_45 : decode cX12_tells 45 = .ok (.iload_n 3, 1) := by decide +kernel
theorem dX12_tells_46 : decode cX12_tells 46 = .ok (.ireturn, 1) := by decide +kernel
theorem dX12_isTop_0 : decode cX12_isTop 0 = .ok (.iload_n 3, 1) := by decide +kernel
theorem dX12_isTop_1 : decode cX12_isTop 1 = .ok (.iload 4, 2) := by decide +kernel
theorem dX12_isTop_3 : decode cX12_isTop 3 = .ok (.if_icmp .ne 8, 3) := by decide +kernel
theorem dX12_isTop_6 : decode cX12_isTop 6 = .ok (.iload 5, 2) := by decide +kernel
theorem dX12_isTop_8 : decode cX12_isTop 8 = .ok (.goto 14, 3) := by decide +kernel
theorem dX12_isTop_11 : decode cX12_isTop 11 = .ok (.aload_n 0, 1) := by decide +kernel
theorem dX12_isTop_12 : decode cX12_isTop 12 = .ok (.getfield 7, 3) := by decide +kernel
theorem dX12_isTop_15 : decode cX12_isTop 15 = .ok (.iload_n 1, 1) := by decide +kernel
theorem dX12_isTop_16 : decode cX12_isTop 16 = .ok (.bipush 22, 2) := by decide +kernel
theorem dX12_isTop_18 : decode cX12_isTop 18 = .ok (.iadd, 1) := by decide +kernel
theorem dX12_isTop_19 : decode cX12_isTop 19 = .ok (.iload_n 3, 1) := by decide +kernel
theorem dX12_isTop_20 : decode cX12_isTop 20 = .ok (.iadd, 1) := by decide +kernel
theorem dX12_isTop_21 : decode cX12_isTop 21 = .ok (.iaload, 1) := by decide +kernel
theorem dX12_isTop_22 : decode cX12_isTop 22 = .ok (.istore 6, 2) := by decide +kernel
theorem dX12_isTop_24 : decode cX12_isTop 24 = .ok (.iload_n 2, 1) := by decide +kernel
theorem dX12_isTop_25 : decode cX12_isTop 25 = .ok (.iload_n 3, 1) := by decide +kernel
theorem dX12_isTop_26 : decode cX12_isTop 26 = .ok (.invokestatic 70, 3) := by decide +kernel
theorem dX12_isTop_29 : decode cX12_isTop 29 = .ok (.istore 7, 2) := by decide +kernel
theorem dX12_isTop_31 : decode cX12_isTop 31 = .ok (.iconst 0, 1) := by decide +kernel
theorem dX12_isTop_32 : decode cX12_isTop 32 = .ok (.istore 8, 2) := by decide +kernel
theorem dX12_isTop_34 : decode cX12_isTop 34 = .ok (.iload 8, 2) := by decide +kernel
theorem dX12_isTop_36 : decode cX12_isTop 36 = .ok (.aload_n 0, 1) := by decide +kernel
theorem dX12_isTop_37 : decode cX12_isTop 37 = .ok (.getfield 7, 3) := by decide +kernel
theorem dX12_isTop_40 : decode cX12_isTop 40 = .ok (.iload_n 1, 1) := by decide +kernel
theorem dX12_isTop_41 : decode cX12_isTop 41 = .ok (.iconst 0, 1) := by decide +kernel
theorem dX12_isTop_42 : decode cX12_isTop 42 = .ok (.iadd, 1) := by decide +kernel
theorem dX12_isTop_43 : decode cX12_isTop 43 = .ok (.iaload, 1) := by decide +kernel
theorem dX12_isTop_44 : decode cX12_isTop 44 = .ok (.if_icmp .ge 100, 3) := by decide +kernel
theorem dX12_isTop_47 : decode cX12_isTop 47 = .ok (.iload 8, 2) := by decide +kernel
theorem dX12_isTop_49 : decode cX12_isTop 49 = .ok (.iload 4, 2) := by decide +kernel
theorem dX12_isTop_51 : decode cX12_isTop 51 = .ok (.if_icmp .ne 8, 3) := by decide +kernel
theorem dX12_isTop_54 : decode cX12_isTop 54 = .ok (.iload 5, 2) := by decide +kernel
theorem dX12_isTop_56 : decode cX12_isTop 56 = .ok (.goto 15, 3) := by decide +kernel
theorem dX12_isTop_59 : decode cX12_isTop 59 = .ok (.aload_n 0, 1) := by decide +kernel
theorem dX12_isTop_60 : decode cX12_isTop 60 = .ok (.getfield 7, 3) := by decide +kernel
theorem dX12_isTop_63 : decode cX12_isTop 63 = .ok (.iload_n 1, 1) := by decide +kernel
theorem dX12_isTop_64 : decode cX12_isTop 64 = .ok (.bipush 22, 2) := by decide +kernel
theorem dX12_isTop_66 : decode cX12_isTop 66 = .ok (.iadd, 1) := by decide +kernel
theorem dX12_isTop_67 : decode cX12_isTop 67 = .ok (.iload 8, 2) := by decide +kernel
theorem dX12_isTop_69 : decode cX12_isTop 69 = .ok (.iadd, 1) := by decide +kernel
theorem dX12_isTop_70 : decode cX12_isTop 70 = .ok (.iaload, 1) := by decide +kernel
theorem dX12_isTop_71 : decode cX12_isTop 71 = .ok (.istore 9, 2) := by decide +kernel
theorem dX12_isTop_73 : decode cX12_isTop 73 = .ok (.iload 8, 2) := by decide +kernel
theorem dX12_isTop_75 : decode cX12_isTop 75 = .ok (.iload 4, 2) := by decide +kernel
theorem dX12_isTop_77 : decode cX12_isTop 77 = .ok (.if_icmp .eq 15, 3) := by decide +kernel
theorem dX12_isTop_80 : decode cX12_isTop 80 = .ok (.iload_n 3, 1) := by decide +kernel
theorem dX12_isTop_81 : decode cX12_isTop 81 = .ok (.iload 4, 2) := by decide +kernel
theorem dX12_isTop_83 : decode cX12_isTop 83 = .ok (.if_icmp .eq 13, 3) := by decide +kernel
theorem dX12_isTop_86 : decode cX12_isTop 86 = .ok (.iload 8, 2) := by decide +kernel
theorem dX12_isTop_88 : decode cX12_isTop 88 = .ok (.iload_n 3, 1) := by decide +kernel
theorem dX12_isTop_89 : decode cX12_isTop 89 = .ok (.if_icmp .le 7, 3) := by decide +kernel
theorem dX12_isTop_92 : decode cX12_isTop 92 = .ok (.iconst 1, 1) := by decide +kernel
theorem dX12_isTop_93 : decode cX12_isTop 93 = .ok (.goto 4, 3) := by decide +kernel
theorem dX12_isTop_96 : decode cX12_isTop 96 = .ok (.iconst 0, 1) := by decide +kernel
theorem dX12_isTop_97 : decode cX12_isTop 97 = .ok (.istore 10, 2) := by decide +kernel
theorem dX12_isTop_99 : decode cX12_isTop 99 = .ok (.iload 7, 2) := by decide +kernel
theorem dX12_isTop_101 : decode cX12_isTop 101 = .ok (.ifCond .eq 34, 3) := by decide +kernel
theorem dX12_isTop_104 : decode cX12_isTop 104 = .ok (.iload 8, 2) := by decide +kernel
theorem dX12_isTop_106 : decode cX12_isTop 106 = .ok (.iload_n 3, 1) := by decide +kernel
theorem dX12_isTop_107 : decode cX12_isTop 107 = .ok (.if_icmp .eq 24, 3) := by decide +kernel
theorem dX12_isTop_110 : decode cX12_isTop 110 = .ok (.iload_n 2, 1) := by decide +kernel
theorem dX12_isTop_111 : decode cX12_isTop 111 = .ok (.iload 8, 2) := by decide +kernel
theorem dX12_isTop_113 : decode cX12_isTop 113 = .ok (.invokestatic 70, 3) := by decide +kernel
theorem dX12_isTop_116 : decode cX12_isTop 116 = .ok (.ifCond .eq 15, 3) := by decide +kernel
theorem dX12_isTop_119 : decode cX12_isTop 119 = .ok (.iload 9, 2) := by decide +kernel
theorem dX12_isTop_121 : decode cX12_isTop 121 = .ok (.iload 6, 2) := by decide +kernel
theorem dX12_isTop_123 : decode cX12_isTop 123 = .ok (.if_icmp .ne 8, 3) := by decide +kernel
theorem dX12_isTop_126 : decode cX12_isTop 126 = .ok (.iload 10, 2) := by decide +kernel
theorem dX12_isTop_128 : decode cX12_isTop 128 = .ok (.ifCond .ne 7, 3) := by decide +kernel
theorem dX12_isTop_131 : decode cX12_isTop 131 = .ok (.iconst 1, 1) := by decide +kernel
theorem dX12_isTop_132 : decode cX12_isTop 132 = .ok (.goto 4, 3) := by decide +kernel
theorem dX12_isTop_135 : decode cX12_isTop 135 = .ok (.iconst 0, 1) := by decide +kernel
theorem dX12_isTop_136 : decode cX12_isTop 136 = .ok (.istore 7, 2) := by decide +kernel
theorem dX12_isTop_138 : decode cX12_isTop 138 = .ok (.iinc 8 1, 3) := by decide +kernel
theorem dX12_isTop_141 : decode cX12_isTop 141 = .ok (.goto (-107), 3) := by decide +kernel
theorem dX12_isTop_144 : decode cX12_isTop 144 = .ok (.iload 7, 2) := by decide +kernel
theorem dX12_isTop_146 : decode cX12_isTop 146 = .ok (.ireturn, 1) := by decide +kernel
theorem dX12_isFree_0 : decode cX12_isFree 0 = .ok (.aload_n 0, 1) := by decide +kernel
theorem dX12_isFree_1 : decode cX12_isFree 1 = .ok (.iconst 0, 1) := by decide +kernel
theorem dX12_isFree_2 : decode cX12_isFree 2 = .ok (.aload_n 0, 1) := by decide +kernel
theorem dX12_isFree_3 : decode cX12_isFree 3 = .ok (.getfield 7, 3) := by decide +kernel
theorem dX12_isFree_6 : decode cX12_isFree 6 = .ok (.iconst 5, 1) := by decide +kernel
theorem dX12_isFree_7 : decode cX12_isFree 7 = .ok (.iaload, 1) := by decide +kernel
theorem dX12_isFree_8 : decode cX12_isFree 8 = .ok (.iload_n 1, 1) := by decide +kernel
theorem dX12_isFree_9 : decode cX12_isFree 9 = .ok (.iconst (-1), 1) := by decide +kernel
theorem dX12_isFree_10 : decode cX12_isFree 10 = .ok (.iconst 0, 1) := by decide +kernel
theorem dX12_isFree_11 : decode cX12_isFree 11 = .ok (.invokevirtual 74, 3) := by decide +kernel
theorem dX12_isFree_14 : decode cX12_isFree 14 = .ok (.ireturn, 1) := by decide +kernel
theorem dX12_type_0 : decode cX12_type 0 = .ok (.iload_n 1, 1) := by decide +kernel
theorem dX12_type_1 : decode cX12_type 1 = .ok (.i2l, 1) := by decide +kernel
theorem dX12_type_2 : decode cX12_type 2 = .ok (.lconst 0, 1) := by decide +kernel
theorem dX12_type_3 : decode cX12_type 3 = .ok (.ldc2_w 78, 3) := by decide +kernel
theorem dX12_type_6 : decode cX12_type 6 = .ok (.invokestatic 34, 3) := by decide +kernel
theorem dX12_type_9 : decode cX12_type 9 = .ok (.ifCond .ne 8, 3) := by decide +kernel
theorem dX12_type_12 : decode cX12_type 12 = .ok (.aload_n 0, 1) := by decide +kernel
theorem dX12_type_13 : decode cX12_type 13 = .ok (.invokevirtual 44, 3) := by decide +kernel
theorem dX12_type_16 : decode cX12_type 16 = .ok (.ireturn, 1) := by decide +kernel
theorem dX12_type_17 : decode cX12_type 17 = .ok (.aload_n 0, 1) := by decide +kernel
theorem dX12_type_18 : decode cX12_type 18 = .ok (.getfield 80, 3) := by decide +kernel
theorem dX12_type_21 : decode cX12_type 21 = .ok (.sipush 150, 3) := by decide +kernel
theorem dX12_type_24 : decode cX12_type 24 = .ok (.if_icmp .ne 8, 3) := by decide +kernel
theorem dX12_type_27 : decode cX12_type 27 = .ok (.aload_n 0, 1) := by decide +kernel
theorem dX12_type_28 : decode cX12_type 28 = .ok (.invokevirtual 60, 3) := by decide +kernel
theorem dX12_type_31 : decode cX12_type 31 = .ok (.ireturn, 1) := by decide +kernel
theorem dX12_type_32 : decode cX12_type 32 = .ok (.aload_n 0, 1) := by decide +kernel
theorem dX12_type_33 : decode cX12_type 33 = .ok (.getfield 17, 3) := by decide +kernel
theorem dX12_type_36 : decode cX12_type 36 = .ok (.aload_n 0, 1) := by decide +kernel
theorem dX12_type_37 : decode cX12_type 37 = .ok (.getfield 80, 3) := by decide +kernel
theorem dX12_type_40 : decode cX12_type 40 = .ok (.iload_n 1, 1) := by decide +kernel
theorem dX12_type_41 : decode cX12_type 41 = .ok (.iastore, 1) := by decide +kernel
theorem dX12_type_42 : decode cX12_type 42 = .ok (.aload_n 0, 1) := by decide +kernel
theorem dX12_type_43 : decode cX12_type 43 = .ok (.dup, 1) := by decide +kernel
theorem dX12_type_44 : decode cX12_type 44 = .ok (.getfield 80, 3) := by decide +kernel
theorem dX12_type_47 : decode cX12_type 47 = .ok (.iconst 1, 1) := by decide +kernel
theorem dX12_type_48 : decode cX12_type 48 = .ok (.iadd, 1) := by decide +kernel
theorem dX12_type_49 : decode cX12_type 49 = .ok (.putfield 80, 3) := by decide +kernel
theorem dX12_type_52 : decode cX12_type 52 = .ok (.aload_n 0, 1) := by decide +kernel
theorem dX12_type_53 : decode cX12_type 53 = .ok (.getfield 80, 3) := by decide +kernel
theorem dX12_type_56 : decode cX12_type 56 = .ok (.ireturn, 1) := by decide +kernel
theorem dX12_clear_0 : decode cX12_clear 0 = .ok (.aload_n 0, 1) := by decide +kernel
theorem dX12_clear_1 : decode cX12_clear 1 = .ok (.getfield 80, 3) := by decide +kernel
theorem dX12_clear_4 : decode cX12_clear 4 = .ok (.istore_n 1, 1) := by decide +kernel
theorem dX12_clear_5 : decode cX12_clear 5 = .ok (.aload_n 0, 1) := by decide +kernel
theorem dX12_clear_6 : decode cX12_clear 6 = .ok (.iconst 0, 1) := by decide +kernel
theorem dX12_clear_7 : decode cX12_clear 7 = .ok (.putfield 80, 3) := by decide +kernel
theorem dX12_clear_10 : decode cX12_clear 10 = .ok (.iload_n 1, 1) := by decide +kernel
theorem dX12_clear_11 : decode cX12_clear 11 = .ok (.ireturn, 1) := by decide +kernel
theorem dX12_byteAt_0 : decode cX12_byteAt 0 = .ok (.iload_n 1, 1) := by decide +kernel
theorem dX12_byteAt_1 : decode cX12_byteAt 1 = .ok (.aload_n 0, 1) := by decide +kernel
theorem dX12_byteAt_2 : decode cX12_byteAt 2 = .ok (.getfield 80, 3) := by decide +kernel
theorem dX12_byteAt_5 : decode cX12_byteAt 5 = .ok (.if_icmp .ge 12, 3) := by decide +kernel
theorem dX12_byteAt_8 : decode cX12_byteAt 8 = .ok (.aload_n 0, 1) := by decide +kernel
theorem dX12_byteAt_9 : decode cX12_byteAt 9 = .ok (.getfield 17, 3) := by decide +kernel
theorem dX12_byteAt_12 : decode cX12_byteAt 12 = .ok (.iload_n 1, 1) := by decide +kernel
theorem dX12_byteAt_13 : decode cX12_byteAt 13 = .ok (.iaload, 1) := by decide +kernel
theorem dX12_byteAt_14 : decode cX12_byteAt 14 = .ok (.goto 4, 3) := by decide +kernel
theorem dX12_byteAt_17 : decode cX12_byteAt 17 = .ok (.iconst (-1), 1) := by decide +kernel
theorem dX12_byteAt_18 : decode cX12_byteAt 18 = .ok (.ireturn, 1) := by decide +kernel
theorem dX12_token_0 : decode cX12_token 0 = .ok (.aload_n 0, 1) := by decide +kernel
theorem dX12_token_1 : decode cX12_token 1 = .ok (.aload_n 0, 1) := by decide +kernel
theorem dX12_token_2 : decode cX12_token 2 = .ok (.getfield 84, 3) := by decide +kernel
theorem dX12_token_5 : decode cX12_token 5 = .ok (.invokevirtual 87, 3) := by decide +kernel
theorem dX12_token_8 : decode cX12_token 8 = .ok (.bipush 32, 2) := by decide +kernel
theorem dX12_token_10 : decode cX12_token 10 = .ok (.if_icmp .ne 16, 3) := by decide +kernel
theorem dX12_token_13 : decode cX12_token 13 = .ok (.aload_n 0, 1) := by decide +kernel
theorem dX12_token_14 : decode cX12_token 14 = .ok (.dup, 1) := by decide +kernel
theorem dX12_token_15 : decode cX12_token 15 = .ok (.getfield 84, 3) := by decide +kernel
theorem dX12_token_18 : decode cX12_token 18 = .ok (.iconst 1, 1) := by decide +kernel
theorem dX12_token_19 : decode cX12_token 19 = .ok (.iadd, 1) := by decide +kernel
theorem dX12_token_20 : decode cX12_token 20 = .ok (.putfield 84, 3) := by decide +kernel
theorem dX12_token_23 : decode cX12_token 23 = .ok (.goto (-23), 3) := by decide +kernel
theorem dX12_token_26 : decode cX12_token 26 = .ok (.aload_n 0, 1) := by decide +kernel
theorem dX12_token_27 : decode cX12_token 27 = .ok (.aload_n 0, 1) := by decide +kernel
theorem dX12_token_28 : decode cX12_token 28 = .ok (.getfield 84, 3) := by decide +kernel
theorem dX12_token_31 : decode cX12_token 31 = .ok (.putfield 91, 3) := by decide +kernel
theorem dX12_token_34 : decode cX12_token 34 = .ok (.aload_n 0, 1) := by decide +kernel
theorem dX12_token_35 : decode cX12_token 35 = .ok (.aload_n 0, 1) := by decide +kernel
theorem dX12_token_36 : decode cX12_token 36 = .ok (.aload_n 0, 1) := by decide +kernel
theorem dX12_token_37 : decode cX12_token 37 = .ok (.getfield 84, 3) := by decide +kernel
theorem dX12_token_40 : decode cX12_token 40 = .ok (.invokevirtual 87, 3) := by decide +kernel
theorem dX12_token_43 : decode cX12_token 43 = .ok (.i2l, 1) := by decide +kernel
theorem dX12_token_44 : decode cX12_token 44 = .ok (.ldc2_w 94, 3) := by decide +kernel
theorem dX12_token_47 : decode cX12_token 47 = .ok (.ldc2_w 96, 3) := by decide +kernel
theorem dX12_token_50 : decode cX12_token 50 = .ok (.invokestatic 34, 3) := by decide +kernel
theorem dX12_token_53 : decode cX12_token 53 = .ok (.putfield 98, 3) := by decide +kernel
theorem dX12_token_56 : decode cX12_token 56 = .ok (.aload_n 0, 1) := by decide +kernel
theorem dX12_token_57 : decode cX12_token 57 = .ok (.aload_n 0, 1) := by decide +kernel
theorem dX12_token_58 : decode cX12_token 58 = .ok (.aload_n 0, 1) := by decide +kernel
theorem dX12_token_59 : decode cX12_token 59 = .ok (.getfield 84, 3) := by decide +kernel
theorem dX12_token_62 : decode cX12_token 62 = .ok (.invokevirtual 87, 3) := by decide +kernel
theorem dX12_token_65 : decode cX12_token 65 = .ok (.i2l, 1) := by decide +kernel
theorem dX12_token_66 : decode cX12_token 66 = .ok (.ldc2_w 102, 3) := by decide +kernel
theorem dX12_token_69 : decode cX12_token 69 = .ok (.ldc2_w 104, 3) := by decide +kernel
theorem dX12_token_72 : decode cX12_token 72 = .ok (.invokestatic 34, 3) := by decide +kernel
theorem dX12_token_75 : decode cX12_token 75 = .ok (.putfield 106, 3) := by decide +kernel
theorem dX12_token_78 : decode cX12_token 78 = .ok (.aload_n 0, 1) := by decide +kernel
theorem dX12_token_79 : decode cX12_token 79 = .ok (.dup, 1) := by decide +kernel
theorem dX12_token_80 : decode cX12_token 80 = .ok (.getfield 84, 3) := by decide +kernel
theorem dX12_token_83 : decode cX12_token 83 = .ok (.aload_n 0, 1) := by decide +kernel
theorem dX12_token_84 : decode cX12_token 84 = .ok (.getfield 84, 3) := by decide +kernel
theorem dX12_token_87 : decode cX12_token 87 = .ok (.aload_n 0, 1) := by decide +kernel
theorem dX12_token_88 : decode cX12_token 88 = .ok (.getfield 80, 3) := by decide +kernel
theorem dX12_token_91 : decode cX12_token 91 = .ok (.if_icmp .ge 7, 3) := by decide +kernel
theorem dX12_token_94 : decode cX12_token 94 = .ok (.iconst 1, 1) := by decide +kernel
theorem dX12_token_95 : decode cX12_token 95 = .ok (.goto 4, 3) := by decide +kernel
theorem dX12_token_98 : decode cX12_token 98 = .ok (.iconst 0, 1) := by decide +kernel
theorem dX12_token_99 : decode cX12_token 99 = .ok (.iadd, 1) := by decide +kernel
theorem dX12_token_100 : decode cX12_token 100 = .ok (.putfield 84, 3) := by decide +kernel
theorem dX12_token_103 : decode cX12_token 103 = .ok (.aload_n 0, 1) := by decide +kernel
theorem dX12_token_104 : decode cX12_token 104 = .ok (.getfield 98, 3) := by decide +kernel
theorem dX12_token_107 : decode cX12_token 107 = .ok (.ifCond .eq 24, 3) := by decide +kernel
theorem dX12_token_110 : decode cX12_token 110 = .ok (.aload_n 0, 1) := by decide +kernel
theorem dX12_token_111 : decode cX12_token 111 = .ok (.aload_n 0, 1) := by decide +kernel
theorem dX12_token_112 : decode cX12_token 112 = .ok (.getfield 84, 3) := by decide +kernel
theorem dX12_token_115 : decode cX12_token 115 = .ok (.invokevirtual 87, 3) := by decide +kernel
theorem dX12_token_118 : decode cX12_token 118 = .ok (.i2l, 1) := by decide +kernel
theorem dX12_token_119 : decode cX12_token 119 = .ok (.ldc2_w 94, 3) := by decide +kernel
theorem dX12_token_122 : decode cX12_token 122 = .ok (.ldc2_w 96, 3) := by decide +kernel
theorem dX12_token_125 : decode cX12_token 125 = .ok (.invokestatic 34, 3) := by decide +kernel
theorem dX12_token_128 : decode cX12_token 128 = .ok (.ifCond .ne 31, 3) := by decide +kernel
theorem dX12_token_131 : decode cX12_token 131 = .ok (.aload_n 0, 1) := by decide +kernel
theorem dX12_token_132 : decode cX12_token 132 = .ok (.getfield 106, 3) := by decide +kernel
theorem dX12_token_135 : decode cX12_token 135 = .ok (.ifCond .eq 37, 3) := by decide +kernel
theorem dX12_token_138 : decode cX12_token 138 = .ok (.aload_n 0, 1) := by decide +kernel
theorem dX12_token_139 : decode cX12_token 139 = .ok (.aload_n 0, 1) := by decide +kernel
theorem dX12_token_140 : decode cX12_token 140 = .ok (.getfield 84, 3) := by decide +kernel
theorem dX12_token_143 : decode cX12_token 143 = .ok (.invokevirtual 87, 3) := by decide +kernel
theorem dX12_token_146 : decode cX12_token 146 = .ok (.i2l, 1) := by decide +kernel
theorem dX12_token_147 : decode cX12_token 147 = .ok (.ldc2_w 102, 3) := by decide +kernel
theorem dX12_token_150 : decode cX12_token 150 = .ok (.ldc2_w 104, 3) := by decide +kernel
theorem dX12_token_153 : decode cX12_token 153 = .ok (.invokestatic 34, 3) := by decide +kernel
theorem dX12_token_156 : decode cX12_token 156 = .ok (.ifCond .eq 16, 3) := by decide +kernel
theorem dX12_token_159 : decode cX12_token 159 = .ok (.aload_n 0, 1) := by decide +kernel
theorem dX12_token_160 : decode cX12_token 160 = .ok (.dup, 1) := by decide +kernel
theorem dX12_token_161 : decode cX12_token 161 = .ok (.getfield 84, 3) := by decide +kernel
theorem dX12_token_164 : decode cX12_token 164 = .ok (.iconst 1, 1) := by decide +kernel
theorem dX12_token_165 : decode cX12_token 165 = .ok (.iadd, 1) := by decide +kernel
theorem dX12_token_166 : decode cX12_token 166 = .ok (.putfield 84, 3) := by decide +kernel
theorem dX12_token_169 : decode cX12_token 169 = .ok (.goto (-66), 3) := by decide +kernel
theorem dX12_token_172 : decode cX12_token 172 = .ok (.return_, 1) := by decide +kernel
theorem dX12_isNamed_0 : decode cX12_isNamed 0 = .ok (.aload_n 0, 1) := by decide +kernel
theorem dX12_isNamed_1 : decode cX12_isNamed 1 = .ok (.getfield 98, 3) := by decide +kernel
theorem dX12_isNamed_4 : decode cX12_isNamed 4 = .ok (.ifCond .eq 29, 3) := by decide +kernel
theorem dX12_isNamed_7 : decode cX12_isNamed 7 = .ok (.aload_n 0, 1) := by decide +kernel
theorem dX12_isNamed_8 : decode cX12_isNamed 8 = .ok (.getfield 84, 3) := by decide +kernel
theorem dX12_isNamed_11 : decode cX12_isNamed 11 = .ok (.aload_n 0, 1) := by decide +kernel
theorem dX12_isNamed_12 : decode cX12_isNamed 12 = .ok (.getfield 91, 3) := by decide +kernel
theorem dX12_isNamed_15 : decode cX12_isNamed 15 = .ok (.isub, 1) := by decide +kernel
theorem dX12_isNamed_16 : decode cX12_isNamed 16 = .ok (.iload 5, 2) := by decide +kernel
theorem dX12_isNamed_18 : decode cX12_isNamed 18 = .ok (.ifCond .ne 7, 3) := by decide +kernel
theorem dX12_isNamed_21 : decode cX12_isNamed 21 = .ok (.iconst 4, 1) := by decide +kernel
theorem dX12_isNamed_22 : decode cX12_isNamed 22 = .ok (.goto 4, 3) := by decide +kernel
theorem dX12_isNamed_25 : decode cX12_isNamed 25 = .ok (.iconst 5, 1) := by decide +kernel
theorem dX12_isNamed_26 : decode cX12_isNamed 26 = .ok (.if_icmp .ne 7, 3) := by decide +kernel
theorem dX12_isNamed_29 : decode cX12_isNamed 29 = .ok (.iconst 1, 1) := by decide +kernel
theorem dX12_isNamed_30 : decode cX12_isNamed 30 = .ok (.goto 4, 3) := by decide +kernel
theorem dX12_isNamed_33 : decode cX12_isNamed 33 = .ok (.iconst 0, 1) := by decide +kernel
theorem dX12_isNamed_34 : decode cX12_isNamed 34 = .ok (.istore 6, 2) := by decide +kernel
theorem dX12_isNamed_36 : decode cX12_isNamed 36 = .ok (.iload 6, 2) := by decide +kernel
theorem dX12_isNamed_38 : decode cX12_isNamed 38 = .ok (.ifCond .eq 82, 3) := by decide +kernel
theorem dX12_isNamed_41 : decode cX12_isNamed 41 = .ok (.aload_n 0, 1) := by decide +kernel
theorem dX12_isNamed_42 : decode cX12_isNamed 42 = .ok (.aload_n 0, 1) := by decide +kernel
theorem dX12_isNamed_43 : decode cX12_isNamed 43 = .ok (.getfield 91, 3) := by decide +kernel
theorem dX12_isNamed_46 : decode cX12_isNamed 46 = .ok (.invokevirtual 87, 3) := by decide +kernel
theorem dX12_isNamed_49 : decode cX12_isNamed 49 = .ok (.iload_n 1, 1) := by decide +kernel
theorem dX12_isNamed_50 : decode cX12_isNamed 50 = .ok (.if_icmp .ne 70, 3) := by decide +kernel
theorem dX12_isNamed_53 : decode cX12_isNamed 53 = .ok (.aload_n 0, 1) := by decide +kernel
theorem dX12_isNamed_54 : decode cX12_isNamed 54 = .ok (.aload_n 0, 1) := by decide +kernel
theorem dX12_isNamed_55 : decode cX12_isNamed 55 = .ok (.getfield 91, 3) := by decide +kernel
theorem dX12_isNamed_58 : decode cX12_isNamed 58 = .ok (.iconst 1, 1) := by decide +kernel
theorem dX12_isNamed_59 : decode cX12_isNamed 59 = .ok (.iadd, 1) := by decide +kernel
theorem dX12_isNamed_60 : decode cX12_isNamed 60 = .ok (.invokevirtual 87, 3) := by decide +kernel
theorem dX12_isNamed_63 : decode cX12_isNamed 63 = .ok (.iload_n 2, 1) := by decide +kernel
theorem dX12_isNamed_64 : decode cX12_isNamed 64 = .ok (.if_icmp .ne 56, 3) := by decide +kernel
theorem dX12_isNamed_67 : decode cX12_isNamed 67 = .ok (.aload_n 0, 1) := by decide +kernel
theorem dX12_isNamed_68 : decode cX12_isNamed 68 = .ok (.aload_n 0, 1) := by decide +kernel
theorem dX12_isNamed_69 : decode cX12_isNamed 69 = .ok (.getfield 91, 3) := by decide +kernel
theorem dX12_isNamed_72 : decode cX12_isNamed 72 = .ok (.iconst 2, 1) := by decide +kernel
theorem dX12_isNamed_73 : decode cX12_isNamed 73 = .ok (.iadd, 1) := by decide +kernel
theorem dX12_isNamed_74 : decode cX12_isNamed 74 = .ok (.invokevirtual 87, 3) := by decide +kernel
theorem dX12_isNamed_77 : decode cX12_isNamed 77 = .ok (.iload_n 3, 1) := by decide +kernel
theorem dX12_isNamed_78 : decode cX12_isNamed 78 = .ok (.if_icmp .ne 42, 3) := by decide +kernel
theorem dX12_isNamed_81 : decode cX12_isNamed 81 = .ok (.aload_n 0, 1) := by decide +kernel
theorem dX12_isNamed_82 : decode cX12_isNamed 82 = .ok (.aload_n 0, 1) := by decide +kernel
theorem dX12_isNamed_83 : decode cX12_isNamed 83 = .ok (.getfield 91, 3) := by decide +kernel
theorem dX12_isNamed_86 : decode cX12_isNamed 86 = .ok (.iconst 3, 1) := by decide +kernel
theorem dX12_isNamed_87 : decode cX12_isNamed 87 = .ok (.iadd, 1) := by decide +kernel
theorem dX12_isNamed_88 : decode cX12_isNamed 88 = .ok (.invokevirtual 87, 3) := by decide +kernel
theorem dX12_isNamed_91 : decode cX12_isNamed 91 = .ok (.iload 4, 2) := by decide +kernel
theorem dX12_isNamed_93 : decode cX12_isNamed 93 = .ok (.if_icmp .ne 27, 3) := by decide +kernel
theorem dX12_isNamed_96 : decode cX12_isNamed 96 = .ok (.iload 5, 2) := by decide +kernel
theorem dX12_isNamed_98 : decode cX12_isNamed 98 = .ok (.ifCond .eq 18, 3) := by decide +kernel
theorem dX12_isNamed_101 : decode cX12_isNamed 101 = .ok (.aload_n 0, 1) := by decide +kernel
theorem dX12_isNamed_102 : decode cX12_isNamed 102 = .ok (.aload_n 0, 1) := by decide +kernel
theorem dX12_isNamed_103 : decode cX12_isNamed 103 = .ok (.getfield 91, 3) := by decide +kernel
theorem dX12_isNamed_106 : decode cX12_isNamed 106 = .ok (.iconst 4, 1) := by decide +kernel
theorem dX12_isNamed_107 : decode cX12_isNamed 107 = .ok (.iadd, 1) := by decide +kernel
theorem dX12_isNamed_108 : decode cX12_isNamed 108 = .ok (.invokevirtual 87, 3) := by decide +kernel
theorem dX12_isNamed_111 : decode cX12_isNamed 111 = .ok (.iload 5, 2) := by decide +kernel
theorem dX12_isNamed_113 : decode cX12_isNamed 113 = .ok (.if_icmp .ne 7, 3) := by decide +kernel
theorem dX12_isNamed_116 : decode cX12_isNamed 116 = .ok (.iconst 1, 1) := by decide +kernel
theorem dX12_isNamed_117 : decode cX12_isNamed 117 = .ok (.goto 4, 3) := by decide +kernel
theorem dX12_isNamed_120 : decode cX12_isNamed 120 = .ok (.iconst 0, 1) := by decide +kernel
theorem dX12_isNamed_121 : decode cX12_isNamed 121 = .ok (.ireturn, 1) := by decide +kernel
theorem dX12_wordNow_0 : decode cX12_wordNow 0 = .ok (.aload_n 0, 1) := by decide +kernel
theorem dX12_wordNow_1 : decode cX12_wordNow 1 = .ok (.bipush 115, 2) := by decide +kernel
theorem dX12_wordNow_3 : decode cX12_wordNow 3 = .ok (.bipush 104, 2) := by decide +kernel
theorem dX12_wordNow_5 : decode cX12_wordNow 5 = .ok (.bipush 105, 2) := by decide +kernel
theorem dX12_wordNow_7 : decode cX12_wordNow 7 = .ok (.bipush 112, 2) := by decide +kernel
theorem dX12_wordNow_9 : decode cX12_wordNow 9 = .ok (.iconst 0, 1) := by decide +kernel
theorem dX12_wordNow_10 : decode cX12_wordNow 10 = .ok (.invokevirtual 109, 3) := by decide +kernel
theorem dX12_wordNow_13 : decode cX12_wordNow 13 = .ok (.ifCond .eq 5, 3) := by decide +kernel
theorem dX12_wordNow_16 : decode cX12_wordNow 16 = .ok (.iconst 0, 1) := by decide +kernel
theorem dX12_wordNow_17 : decode cX12_wordNow 17 = .ok (.ireturn, 1) := by decide +kernel
theorem dX12_wordNow_18 : decode cX12_wordNow 18 = .ok (.aload_n 0, 1) := by decide +kernel
theorem dX12_wordNow_19 : decode cX12_wordNow 19 = .ok (.bipush 103, 2) := by decide +kernel
theorem dX12_wordNow_21 : decode cX12_wordNow 21 = .ok (.bipush 111, 2) := by decide +kernel
theorem dX12_wordNow_23 : decode cX12_wordNow 23 = .ok (.bipush 111, 2) := by decide +kernel
theorem dX12_wordNow_25 : decode cX12_wordNow 25 = .ok (.bipush 100, 2) := by decide +kernel
theorem dX12_wordNow_27 : decode cX12_wordNow 27 = .ok (.bipush 115, 2) := by decide +kernel
theorem dX12_wordNow_29 : decode cX12_wordNow 29 = .ok (.invokevirtual 109, 3) := by decide +kernel
theorem dX12_wordNow_32 : decode cX12_wordNow 32 = .ok (.ifCond .eq 7, 3) := by decide +kernel
theorem dX12_wordNow_35 : decode cX12_wordNow 35 = .ok (.iconst 1, 1) := by decide +kernel
theorem dX12_wordNow_36 : decode cX12_wordNow 36 = .ok (.goto 24, 3) := by decide +kernel
theorem dX12_wordNow_39 : decode cX12_wordNow 39 = .ok (.aload_n 0, 1) := by decide +kernel
theorem dX12_wordNow_40 : decode cX12_wordNow 40 = .ok (.bipush 111, 2) := by decide +kernel
theorem dX12_wordNow_42 : decode cX12_wordNow 42 = .ok (.bipush 118, 2) := by decide +kernel
theorem dX12_wordNow_44 : decode cX12_wordNow 44 = .ok (.bipush 101, 2) := by decide +kernel
theorem dX12_wordNow_46 : decode cX12_wordNow 46 = .ok (.bipush 114, 2) := by decide +kernel
theorem dX12_wordNow_48 : decode cX12_wordNow 48 = .ok (.iconst 0, 1) := by decide +kernel
theorem dX12_wordNow_49 : decode cX12_wordNow 49 = .ok (.invokevirtual 109, 3) := by decide +kernel
theorem dX12_wordNow_52 : decode cX12_wordNow 52 = .ok (.ifCond .eq 7, 3) := by decide +kernel
theorem dX12_wordNow_55 : decode cX12_wordNow 55 = .ok (.iconst 2, 1) := by decide +kernel
theorem dX12_wordNow_56 : decode cX12_wordNow 56 = .ok (.goto 4, 3) := by decide +kernel
theorem dX12_wordNow_59 : decode cX12_wordNow 59 = .ok (.iconst (-1), 1) := by decide +kernel
theorem dX12_wordNow_60 : decode cX12_wordNow 60 = .ok (.ireturn, 1) := by decide +kernel
theorem dX12_takes_0 : decode cX12_takes 0 = .ok (.aload_n 0, 1) := by decide +kernel
theorem dX12_takes_1 : decode cX12_takes 1 = .ok (.invokevirtual 112, 3) := by decide +kernel
theorem dX12_takes_4 : decode cX12_takes 4 = .ok (.aload_n 0, 1) := by decide +kernel
theorem dX12_takes_5 : decode cX12_takes 5 = .ok (.getfield 106, 3) := by decide +kernel
theorem dX12_takes_8 : decode cX12_takes 8 = .ok (.ifCond .eq 16, 3) := by decide +kernel
theorem dX12_takes_11 : decode cX12_takes 11 = .ok (.aload_n 0, 1) := by decide +kernel
theorem dX12_takes_12 : decode cX12_takes 12 = .ok (.getfield 84, 3) := by decide +kernel
theorem dX12_takes_15 : decode cX12_takes 15 = .ok (.aload_n 0, 1) := by decide +kernel
theorem dX12_takes_16 : decode cX12_takes 16 = .ok (.getfield 91, 3) := by decide +kernel
theorem dX12_takes_19 : decode cX12_takes 19 = .ok (.isub, 1) := by decide +kernel
theorem dX12_takes_20 : decode cX12_takes 20 = .ok (.iconst 3, 1) := by decide +kernel
theorem dX12_takes_21 : decode cX12_takes 21 = .ok (.if_icmp .le 5, 3) := by decide +kernel
theorem dX12_takes_24 : decode cX12_takes 24 = .ok (.iconst 0, 1) := by decide +kernel
theorem dX12_takes_25 : decode cX12_takes 25 = .ok (.ireturn, 1) := by decide +kernel
theorem dX12_takes_26 : decode cX12_takes 26 = .ok (.iconst 0, 1) := by decide +kernel
theorem dX12_takes_27 : decode cX12_takes 27 = .ok (.istore 4, 2) := by decide +kernel
theorem dX12_takes_29 : decode cX12_takes 29 = .ok (.aload_n 0, 1) := by decide +kernel
theorem dX12_takes_30 : decode cX12_takes 30 = .ok (.getfield 91, 3) := by decide +kernel
theorem dX12_takes_33 : decode cX12_takes 33 = .ok (.istore 5, 2) := by decide +kernel
theorem dX12_takes_35 : decode cX12_takes 35 = .ok (.iload 5, 2) := by decide +kernel
theorem dX12_takes_37 : decode cX12_takes 37 = .ok (.aload_n 0, 1) := by decide +kernel
theorem dX12_takes_38 : decode cX12_takes 38 = .ok (.getfield 84, 3) := by decide +kernel
theorem dX12_takes_41 : decode cX12_takes 41 = .ok (.if_icmp .ge 26, 3) := by decide +kernel
theorem dX12_takes_44 : decode cX12_takes 44 = .ok (.bipush 10, 2) := by decide +kernel
theorem dX12_takes_46 : decode cX12_takes 46 = .ok (.iload 4, 2) := by decide +kernel
theorem dX12_takes_48 : decode cX12_takes 48 = .ok (.imul, 1) := by decide +kernel
theorem dX12_takes_49 : decode cX12_takes 49 = .ok (.aload_n 0, 1) := by decide +kernel
theorem dX12_takes_50 : decode cX12_takes 50 = .ok (.iload 5, 2) := by decide +kernel
theorem dX12_takes_52 : decode cX12_takes 52 = .ok (.invokevirtual 87, 3) := by decide +kernel
theorem dX12_takes_55 : decode cX12_takes 55 = .ok (.iadd, 1) := by decide +kernel
theorem dX12_takes_56 : decode cX12_takes 56 = .ok (.bipush 48, 2) := by decide +kernel
theorem dX12_takes_58 : decode cX12_takes 58 = .ok (.isub, 1) := by decide +kernel
theorem dX12_takes_59 : decode cX12_takes 59 = .ok (.istore 4, 2) := by decide +kernel
theorem dX12_takes_61 : decode cX12_takes 61 = .ok (.iinc 5 1, 3) := by decide +kernel
theorem dX12_takes_64 : decode cX12_takes 64 = .ok (.goto (-29), 3) := by decide +kernel
theorem dX12_takes_67 : decode cX12_takes 67 = .ok (.aload_n 0, 1) := by decide +kernel
theorem dX12_takes_68 : decode cX12_takes 68 = .ok (.getfield 27, 3) := by decide +kernel
theorem dX12_takes_71 : decode cX12_takes 71 = .ok (.iload_n 1, 1) := by decide +kernel
theorem dX12_takes_72 : decode cX12_takes 72 = .ok (.iload 4, 2) := by decide +kernel
theorem dX12_takes_74 : decode cX12_takes 74 = .ok (.iastore, 1) := by decide +kernel
theorem dX12_takes_75 : decode cX12_takes 75 = .ok (.iload 4, 2) := by decide +kernel
theorem dX12_takes_77 : decode cX12_takes 77 = .ok (.i2l, 1) := by decide +kernel
theorem dX12_takes_78 : decode cX12_takes 78 = .ok (.iload_n 2, 1) := by decide +kernel
theorem dX12_takes_79 : decode cX12_takes 79 = .ok (.i2l, 1) := by decide +kernel
theorem dX12_takes_80 : decode cX12_takes 80 = .ok (.iload_n 3, 1) := by decide +kernel
theorem dX12_takes_81 : decode cX12_takes 81 = .ok (.i2l, 1) := by decide +kernel
theorem dX12_takes_82 : decode cX12_takes 82 = .ok (.invokestatic 34, 3) := by decide +kernel
theorem dX12_takes_85 : decode cX12_takes 85 = .ok (.ireturn, 1) := by decide +kernel
theorem dX12_takesShip_0 : decode cX12_takesShip 0 = .ok (.aload_n 0, 1) := by decide +kernel
theorem dX12_takesShip_1 : decode cX12_takesShip 1 = .ok (.iconst 0, 1) := by decide +kernel
theorem dX12_takesShip_2 : decode cX12_takesShip 2 = .ok (.iconst 0, 1) := by decide +kernel
theorem dX12_takesShip_3 : decode cX12_takesShip 3 = .ok (.bipush 99, 2) := by decide +kernel
theorem dX12_takesShip_5 : decode cX12_takesShip 5 = .ok (.invokevirtual 115, 3) := by decide +kernel
theorem dX12_takesShip_8 : decode cX12_takesShip 8 = .ok (.ifCond .eq 15, 3) := by decide +kernel
theorem dX12_takesShip_11 : decode cX12_takesShip 11 = .ok (.aload_n 0, 1) := by decide +kernel
theorem dX12_takesShip_12 : decode cX12_takesShip 12 = .ok (.iconst 1, 1) := by decide +kernel
theorem dX12_takesShip_13 : decode cX12_takesShip 13 = .ok (.iconst 0, 1) := by decide +kernel
theorem dX12_takesShip_14 : decode cX12_takesShip 14 = .ok (.sipush 200, 3) := by decide +kernel
theorem dX12_takesShip_17 : decode cX12_takesShip 17 = .ok (.invokevirtual 115, 3) := by decide +kernel
theorem dX12_takesShip_20 : decode cX12_takesShip 20 = .ok (.ifCond .ne 5, 3) := by decide +kernel
theorem dX12_takesShip_23 : decode cX12_takesShip 23 = .ok (.iconst 0, 1) := by decide +kernel
theorem dX12_takesShip_24 : decode cX12_takesShip 24 = .ok (.ireturn, 1) := by decide +kernel
theorem dX12_takesShip_25 : decode cX12_takesShip 25 = .ok (.aload_n 0, 1) := by decide +kernel
theorem dX12_takesShip_26 : decode cX12_takesShip 26 = .ok (.getfield 7, 3) := by decide +kernel
theorem dX12_takesShip_29 : decode cX12_takesShip 29 = .ok (.sipush 241, 3) := by decide +kernel
theorem dX12_takesShip_32 : decode cX12_takesShip 32 = .ok (.aload_n 0, 1) := by decide +kernel
theorem dX12_takesShip_33 : decode cX12_takesShip 33 = .ok (.getfield 27, 3) := by decide +kernel
theorem dX12_takesShip_36 : decode cX12_takesShip 36 = .ok (.iconst 0, 1) := by decide +kernel
theorem dX12_takesShip_37 : decode cX12_takesShip 37 = .ok (.iaload, 1) := by decide +kernel
theorem dX12_takesShip_38 : decode cX12_takesShip 38 = .ok (.iastore, 1) := by decide +kernel
theorem dX12_takesShip_39 : decode cX12_takesShip 39 = .ok (.aload_n 0, 1) := by decide +kernel
theorem dX12_takesShip_40 : decode cX12_takesShip 40 = .ok (.getfield 7, 3) := by decide +kernel
theorem dX12_takesShip_43 : decode cX12_takesShip 43 = .ok (.sipush 242, 3) := by decide +kernel
theorem dX12_takesShip_46 : decode cX12_takesShip 46 = .ok (.aload_n 0, 1) := by decide +kernel
theorem dX12_takesShip_47 : decode cX12_takesShip 47 = .ok (.getfield 27, 3) := by decide +kernel
theorem dX12_takesShip_50 : decode cX12_takesShip 50 = .ok (.iconst 1, 1) := by decide +kernel
theorem dX12_takesShip_51 : decode cX12_takesShip 51 = .ok (.iaload, 1) := by decide +kernel
theorem dX12_takesShip_52 : decode cX12_takesShip 52 = .ok (.iastore, 1) := by decide +kernel
theorem dX12_takesShip_53 : decode cX12_takesShip 53 = .ok (.iconst 1, 1) := by decide +kernel
theorem dX12_takesShip_54 : decode cX12_takesShip 54 = .ok (.ireturn, 1) := by decide +kernel
theorem dX12_takesGoods_0 : decode cX12_takesGoods 0 = .ok (.aload_n 0, 1) := by decide +kernel
theorem dX12_takesGoods_1 : decode cX12_takesGoods 1 = .ok (.getfield 7, 3) := by decide +kernel
theorem dX12_takesGoods_4 : decode cX12_takesGoods 4 = .ok (.sipush 240, 3) := by decide +kernel
theorem dX12_takesGoods_7 : decode cX12_takesGoods 7 = .ok (.iaload, 1) := by decide +kernel
theorem dX12_takesGoods_8 : decode cX12_takesGoods 8 = .ok (.bipush 8, 2) := by decide +kernel
theorem dX12_takesGoods_10 : decode cX12_takesGoods 10 = .ok (.if_icmp .eq 66, 3) := by decide +kernel
theorem dX12_takesGoods_13 : decode cX12_takesGoods 13 = .ok (.aload_n 0, 1) := by decide +kernel
theorem dX12_takesGoods_14 : decode cX12_takesGoods 14 = .ok (.iconst 0, 1) := by decide +kernel
theorem dX12_takesGoods_15 : decode cX12_takesGoods 15 = .ok (.iconst 0, 1) := by decide +kernel
theorem dX12_takesGoods_16 : decode cX12_takesGoods 16 = .ok (.iconst 5, 1) := by decide +kernel
theorem dX12_takesGoods_17 : decode cX12_takesGoods 17 = .ok (.invokevirtual 115, 3) := by decide +kernel
theorem dX12_takesGoods_20 : decode cX12_takesGoods 20 = .ok (.ifCond .eq 56, 3) := by decide +kernel
theorem dX12_takesGoods_23 : decode cX12_takesGoods 23 = .ok (.aload_n 0, 1) := by decide +kernel
theorem dX12_takesGoods_24 : decode cX12_takesGoods 24 = .ok (.iconst 1, 1) := by decide +kernel
theorem dX12_takesGoods_25 : decode cX12_takesGoods 25 = .ok (.iconst 0, 1) := by decide +kernel
theorem dX12_takesGoods_26 : decode cX12_takesGoods 26 = .ok (.iconst 3, 1) := by decide +kernel
theorem dX12_takesGoods_27 : decode cX12_takesGoods 27 = .ok (.invokevirtual 115, 3) := by decide +kernel
theorem dX12_takesGoods_30 : decode cX12_takesGoods 30 = .ok (.ifCond .eq 46, 3) := by decide +kernel
theorem dX12_takesGoods_33 : decode cX12_takesGoods 33 = .ok (.aload_n 0, 1) := by decide +kernel
theorem dX12_takesGoods_34 : decode cX12_takesGoods 34 = .ok (.iconst 2, 1) := by decide +kernel
theorem dX12_takesGoods_35 : decode cX12_takesGoods 35 = .ok (.iconst 0, 1) := by decide +kernel
theorem dX12_takesGoods_36 : decode cX12_takesGoods 36 = .ok (.iconst 2, 1) := by decide +kernel
theorem dX12_takesGoods_37 : decode cX12_takesGoods 37 = .ok (.invokevirtual 115, 3) := by decide +kernel
theorem dX12_takesGoods_40 : decode cX12_takesGoods 40 = .ok (.ifCond .eq 36, 3) := by decide +kernel
theorem dX12_takesGoods_43 : decode cX12_takesGoods 43 = .ok (.aload_n 0, 1) := by decide +kernel
theorem dX12_takesGoods_44 : decode cX12_takesGoods 44 = .ok (.iconst 3, 1) := by decide +kernel
theorem dX12_takesGoods_45 : decode cX12_takesGoods 45 = .ok (.iconst 1, 1) := by decide +kernel
theorem dX12_takesGoods_46 : decode cX12_takesGoods 46 = .ok (.bipush 40, 2) := by decide +kernel
theorem dX12_takesGoods_48 : decode cX12_takesGoods 48 = .ok (.invokevirtual 115, 3) := by decide +kernel
theorem dX12_takesGoods_51 : decode cX12_takesGoods 51 = .ok (.ifCond .eq 25, 3) := by decide +kernel
theorem dX12_takesGoods_54 : decode cX12_takesGoods 54 = .ok (.aload_n 0, 1) := by decide +kernel
theorem dX12_takesGoods_55 : decode cX12_takesGoods 55 = .ok (.iconst 4, 1) := by decide +kernel
theorem dX12_takesGoods_56 : decode cX12_takesGoods 56 = .ok (.iconst 0, 1) := by decide +kernel
theorem dX12_takesGoods_57 : decode cX12_takesGoods 57 = .ok (.bipush 60, 2) := by decide +kernel
theorem dX12_takesGoods_59 : decode cX12_takesGoods 59 = .ok (.invokevirtual 115, 3) := by decide +kernel
theorem dX12_takesGoods_62 : decode cX12_takesGoods 62 = .ok (.ifCond .eq 14, 3) := by decide +kernel
theorem dX12_takesGoods_65 : decode cX12_takesGoods 65 = .ok (.aload_n 0, 1) := by decide +kernel
theorem dX12_takesGoods_66 : decode cX12_takesGoods 66 = .ok (.iconst 5, 1) := by decide +kernel
theorem dX12_takesGoods_67 : decode cX12_takesGoods 67 = .ok (.iconst 0, 1) := by decide +kernel
theorem dX12_takesGoods_68 : decode cX12_takesGoods 68 = .ok (.bipush 60, 2) := by decide +kernel
theorem dX12_takesGoods_70 : decode cX12_takesGoods 70 = .ok (.invokevirtual 115, 3) := by decide +kernel
theorem dX12_takesGoods_73 : decode cX12_takesGoods 73 = .ok (.ifCond .ne 5, 3) := by decide +kernel
theorem dX12_takesGoods_76 : decode cX12_takesGoods 76 = .ok (.iconst 0, 1) := by decide +kernel
theorem dX12_takesGoods_77 : decode cX12_takesGoods 77 = .ok (.ireturn, 1) := by decide +kernel
theorem dX12_takesGoods_78 : decode cX12_takesGoods 78 = .ok (.aload_n 0, 1) := by decide +kernel
theorem dX12_takesGoods_79 : decode cX12_takesGoods 79 = .ok (.sipush 240, 3) := by decide +kernel
theorem dX12_takesGoods_82 : decode cX12_takesGoods 82 = .ok (.aload_n 0, 1) := by decide +kernel
theorem dX12_takesGoods_83 : decode cX12_takesGoods 83 = .ok (.getfield 27, 3) := by decide +kernel
theorem dX12_takesGoods_86 : decode cX12_takesGoods 86 = .ok (.iconst 0, 1) := by decide +kernel
theorem dX12_takesGoods_87 : decode cX12_takesGoods 87 = .ok (.iaload, 1) := by decide +kernel
theorem dX12_takesGoods_88 : decode cX12_takesGoods 88 = .ok (.aload_n 0, 1) := by decide +kernel
theorem dX12_takesGoods_89 : decode cX12_takesGoods 89 = .ok (.getfield 27, 3) := by decide +kernel
theorem dX12_takesGoods_92 : decode cX12_takesGoods 92 = .ok (.iconst 1, 1) := by decide +kernel
theorem dX12_takesGoods_93 : decode cX12_takesGoods 93 = .ok (.iaload, 1) := by decide +kernel
theorem dX12_takesGoods_94 : decode cX12_takesGoods 94 = .ok (.aload_n 0, 1) := by decide +kernel
theorem dX12_takesGoods_95 : decode cX12_takesGoods 95 = .ok (.getfield 27, 3) := by decide +kernel
theorem dX12_takesGoods_98 : decode cX12_takesGoods 98 = .ok (.iconst 2, 1) := by decide +kernel
theorem dX12_takesGoods_99 : decode cX12_takesGoods 99 = .ok (.iaload, 1) := by decide +kernel
theorem dX12_takesGoods_100 : decode cX12_takesGoods 100 = .ok (.aload_n 0, 1) := by decide +kernel
theorem dX12_takesGoods_101 : decode cX12_takesGoods 101 = .ok (.getfield 27, 3) := by decide +kernel
theorem dX12_takesGoods_104 : decode cX12_takesGoods 104 = .ok (.iconst 3, 1) := by decide +kernel
theorem dX12_takesGoods_105 : decode cX12_takesGoods 105 = .ok (.iaload, 1) := by decide +kernel
theorem dX12_takesGoods_106 : decode cX12_takesGoods 106 = .ok (.aload_n 0, 1) := by decide +kernel
theorem dX12_takesGoods_107 : decode cX12_takesGoods 107 = .ok (.getfield 27, 3) := by decide +kernel
theorem dX12_takesGoods_110 : decode cX12_takesGoods 110 = .ok (.iconst 4, 1) := by decide +kernel
theorem dX12_takesGoods_111 : decode cX12_takesGoods 111 = .ok (.iaload, 1) := by decide +kernel
theorem dX12_takesGoods_112 : decode cX12_takesGoods 112 = .ok (.aload_n 0, 1) := by decide +kernel
theorem dX12_takesGoods_113 : decode cX12_takesGoods 113 = .ok (.getfield 27, 3) := by decide +kernel
theorem dX12_takesGoods_116 : decode cX12_takesGoods 116 = .ok (.iconst 5, 1) := by decide +kernel
theorem dX12_takesGoods_117 : decode cX12_takesGoods 117 = .ok (.iaload, 1) := by decide +kernel
theorem dX12_takesGoods_118 : decode cX12_takesGoods 118 = .ok (.invokevirtual 63, 3) := by decide +kernel
theorem dX12_takesGoods_121 : decode cX12_takesGoods 121 = .ok (.ifCond .lt 7, 3) := by decide +kernel
theorem dX12_takesGoods_124 : decode cX12_takesGoods 124 = .ok (.iconst 1, 1) := by decide +kernel
theorem dX12_takesGoods_125 : decode cX12_takesGoods 125 = .ok (.goto 4, 3) := by decide +kernel
theorem dX12_takesGoods_128 : decode cX12_takesGoods 128 = .ok (.iconst 0, 1) := by decide +kernel
theorem dX12_takesGoods_129 : decode cX12_takesGoods 129 = .ok (.ireturn, 1) := by decide +kernel
theorem dX12_takesOver_0 : decode cX12_takesOver 0 = .ok (.aload_n 0, 1) := by decide +kernel
theorem dX12_takesOver_1 : decode cX12_takesOver 1 = .ok (.iconst 0, 1) := by decide +kernel
theorem dX12_takesOver_2 : decode cX12_takesOver 2 = .ok (.iconst 0, 1) := by decide +kernel
theorem dX12_takesOver_3 : decode cX12_takesOver 3 = .ok (.aload_n 0, 1) := by decide +kernel
theorem dX12_takesOver_4 : decode cX12_takesOver 4 = .ok (.getfield 7, 3) := by decide +kernel
theorem dX12_takesOver_7 : decode cX12_takesOver 7 = .ok (.sipush 240, 3) := by decide +kernel
theorem dX12_takesOver_10 : decode cX12_takesOver 10 = .ok (.iaload, 1) := by decide +kernel
theorem dX12_takesOver_11 : decode cX12_takesOver 11 = .ok (.iconst 1, 1) := by decide +kernel
theorem dX12_takesOver_12 : decode cX12_takesOver 12 = .ok (.isub, 1) := by decide +kernel
theorem dX12_takesOver_13 : decode cX12_takesOver 13 = .ok (.invokevirtual 115, 3) := by decide +kernel
theorem dX12_takesOver_16 : decode cX12_takesOver 16 = .ok (.ifCond .eq 29, 3) := by decide +kernel
theorem dX12_takesOver_19 : decode cX12_takesOver 19 = .ok (.aload_n 0, 1) := by decide +kernel
theorem dX12_takesOver_20 : decode cX12_takesOver 20 = .ok (.sipush 240, 3) := by decide +kernel
theorem dX12_takesOver_23 : decode cX12_takesOver 23 = .ok (.aload_n 0, 1) := by decide +kernel
theorem dX12_takesOver_24 : decode cX12_takesOver 24 = .ok (.getfield 7, 3) := by decide +kernel
theorem dX12_takesOver_27 : decode cX12_takesOver 27 = .ok (.sipush 245, 3) := by decide +kernel
theorem dX12_takesOver_30 : decode cX12_takesOver 30 = .ok (.iaload, 1) := by decide +kernel
theorem dX12_takesOver_31 : decode cX12_takesOver 31 = .ok (.aload_n 0, 1) := by decide +kernel
theorem dX12_takesOver_32 : decode cX12_takesOver 32 = .ok (.getfield 27, 3) := by decide +kernel
theorem dX12_takesOver_35 : decode cX12_takesOver 35 = .ok (.iconst 0, 1) := by decide +kernel
theorem dX12_takesOver_36 : decode cX12_takesOver 36 = .ok (.iaload, 1) := by decide +kernel
theorem dX12_takesOver_37 : decode cX12_takesOver 37 = .ok (.iconst (-1), 1) := by decide +kernel
theorem dX12_takesOver_38 : decode cX12_takesOver 38 = .ok (.iconst 0, 1) := by decide +kernel
theorem dX12_takesOver_39 : decode cX12_takesOver 39 = .ok (.invokevirtual 74, 3) := by decide +kernel
theorem dX12_takesOver_42 : decode cX12_takesOver 42 = .ok (.ifCond .ne 5, 3) := by decide +kernel
theorem dX12_takesOver_45 : decode cX12_takesOver 45 = .ok (.iconst 0, 1) := by decide +kernel
theorem dX12_takesOver_46 : decode cX12_takesOver 46 = .ok (.ireturn, 1) := by decide +kernel
theorem dX12_takesOver_47 : decode cX12_takesOver 47 = .ok (.aload_n 0, 1) := by decide +kernel
theorem dX12_takesOver_48 : decode cX12_takesOver 48 = .ok (.getfield 7, 3) := by decide +kernel
theorem dX12_takesOver_51 : decode cX12_takesOver 51 = .ok (.sipush 245, 3) := by decide +kernel
theorem dX12_takesOver_54 : decode cX12_takesOver 54 = .ok (.dup2, 1) := by decide +kernel
theorem dX12_takesOver_55 : decode cX12_takesOver 55 = .ok (.iaload, 1) := by decide +kernel
theorem dX12_takesOver_56 : decode cX12_takesOver 56 = .ok (.iconst 1, 1) := by decide +kernel
theorem dX12_takesOver_57 : decode cX12_takesOver 57 = .ok (.aload_n 0, 1) := by decide +kernel
theorem dX12_takesOver_58 : decode cX12_takesOver 58 = .ok (.getfield 27, 3) := by decide +kernel
theorem dX12_takesOver_61 : decode cX12_takesOver 61 = .ok (.iconst 0, 1) := by decide +kernel
theorem dX12_takesOver_62 : decode cX12_takesOver 62 = .ok (.iaload, 1) := by decide +kernel
theorem dX12_takesOver_63 : decode cX12_takesOver 63 = .ok (.ishl, 1) := by decide +kernel
theorem dX12_takesOver_64 : decode cX12_takesOver 64 = .ok (.iconst (-1), 1) := by decide +kernel
theorem dX12_takesOver_65 : decode cX12_takesOver 65 = .ok (.ixor, 1) := by decide +kernel
theorem dX12_takesOver_66 : decode cX12_takesOver 66 = .ok (.iand, 1) := by decide +kernel
theorem dX12_takesOver_67 : decode cX12_takesOver 67 = .ok (.iastore, 1) := by decide +kernel
theorem dX12_takesOver_68 : decode cX12_takesOver 68 = .ok (.iconst 1, 1) := by decide +kernel
theorem dX12_takesOver_69 : decode cX12_takesOver 69 = .ok (.ireturn, 1) := by decide +kernel
theorem dX12_takesItem_0 : decode cX12_takesItem 0 = .ok (.aload_n 0, 1) := by decide +kernel
theorem dX12_takesItem_1 : decode cX12_takesItem 1 = .ok (.invokevirtual 119, 3) := by decide +kernel
theorem dX12_takesItem_4 : decode cX12_takesItem 4 = .ok (.istore_n 2, 1) := by decide +kernel
theorem dX12_takesItem_5 : decode cX12_takesItem 5 = .ok (.iload_n 2, 1) := by decide +kernel
theorem dX12_takesItem_6 : decode cX12_takesItem 6 = .ok (.iconst (-1), 1) := by decide +kernel
theorem dX12_takesItem_7 : decode cX12_takesItem 7 = .ok (.if_icmp .eq 24, 3) := by decide +kernel
theorem dX12_takesItem_10 : decode cX12_takesItem 10 = .ok (.iload_n 2, 1) := by decide +kernel
theorem dX12_takesItem_11 : decode cX12_takesItem 11 = .ok (.ifCond .ne 7, 3) := by decide +kernel
theorem dX12_takesItem_14 : decode cX12_takesItem 14 = .ok (.iconst 1, 1) := by decide +kernel
theorem dX12_takesItem_15 : decode cX12_takesItem 15 = .ok (.goto 4, 3) := by decide +kernel
theorem dX12_takesItem_18 : decode cX12_takesItem 18 = .ok (.iconst 0, 1) := by decide +kernel
theorem dX12_takesItem_19 : decode cX12_takesItem 19 = .ok (.iload_n 1, 1) := by decide +kernel
theorem dX12_takesItem_20 : decode cX12_takesItem 20 = .ok (.ifCond .ne 7, 3) := by decide +kernel
theorem dX12_takesItem_23 : decode cX12_takesItem 23 = .ok (.iconst 1, 1) := by decide +kernel
theorem dX12_takesItem_24 : decode cX12_takesItem 24 = .ok (.goto 4, 3) := by decide +kernel
theorem dX12_takesItem_27 : decode cX12_takesItem 27 = .ok (.iconst 0, 1) := by decide +kernel
theorem dX12_takesItem_28 : decode cX12_takesItem 28 = .ok (.if_icmp .eq 5, 3) := by decide +kernel
theorem dX12_takesItem_31 : decode cX12_takesItem 31 = .ok (.iconst 0, 1) := by decide +kernel
theorem dX12_takesItem_32 : decode cX12_takesItem 32 = .ok (.ireturn, 1) := by decide +kernel
theorem dX12_takesItem_33 : decode cX12_takesItem 33 = .ok (.iload_n 2, 1) := by decide +kernel
theorem dX12_takesItem_34 : decode cX12_takesItem 34 = .ok (.ifCond .ne 10, 3) := by decide +kernel
theorem dX12_takesItem_37 : decode cX12_takesItem 37 = .ok (.aload_n 0, 1) := by decide +kernel
theorem dX12_takesItem_38 : decode cX12_takesItem 38 = .ok (.invokevirtual 122, 3) := by decide +kernel
theorem dX12_takesItem_41 : decode cX12_takesItem 41 = .ok (.goto 19, 3) := by decide +kernel
theorem dX12_takesItem_44 : decode cX12_takesItem 44 = .ok (.iload_n 2, 1) := by decide +kernel
theorem dX12_takesItem_45 : decode cX12_takesItem 45 = .ok (.iconst 1, 1) := by decide +kernel
theorem dX12_takesItem_46 : decode cX12_takesItem 46 = .ok (.if_icmp .ne 10, 3) := by decide +kernel
theorem dX12_takesItem_49 : decode cX12_takesItem 49 = .ok (.aload_n 0, 1) := by decide +kernel
theorem dX12_takesItem_50 : decode cX12_takesItem 50 = .ok (.invokevirtual 126, 3) := by decide +kernel
theorem dX12_takesItem_53 : decode cX12_takesItem 53 = .ok (.goto 7, 3) := by decide +kernel
theorem dX12_takesItem_56 : decode cX12_takesItem 56 = .ok (.aload_n 0, 1) := by decide +kernel
theorem dX12_takesItem_57 : decode cX12_takesItem 57 = .ok (.invokevirtual 129, 3) := by decide +kernel
theorem dX12_takesItem_60 : decode cX12_takesItem 60 = .ok (.istore_n 3, 1) := by decide +kernel
theorem dX12_takesItem_61 : decode cX12_takesItem 61 = .ok (.iload_n 3, 1) := by decide +kernel
theorem dX12_takesItem_62 : decode cX12_takesItem 62 = .ok (.ifCond .ne 5, 3) := by decide +kernel
theorem dX12_takesItem_65 : decode cX12_takesItem 65 = .ok (.iconst 0, 1) := by decide +kernel
theorem dX12_takesItem_66 : decode cX12_takesItem 66 = .ok (.ireturn, 1) := by decide +kernel
theorem dX12_takesItem_67 : decode cX12_takesItem 67 = .ok (.aload_n 0, 1) := by decide +kernel
theorem dX12_takesItem_68 : decode cX12_takesItem 68 = .ok (.invokevirtual 112, 3) := by decide +kernel
theorem dX12_takesItem_71 : decode cX12_takesItem 71 = .ok (.aload_n 0, 1) := by decide +kernel
theorem dX12_takesItem_72 : decode cX12_takesItem 72 = .ok (.aload_n 0, 1) := by decide +kernel
theorem dX12_takesItem_73 : decode cX12_takesItem 73 = .ok (.getfield 91, 3) := by decide +kernel
theorem dX12_takesItem_76 : decode cX12_takesItem 76 = .ok (.invokevirtual 87, 3) := by decide +kernel
theorem dX12_takesItem_79 : decode cX12_takesItem 79 = .ok (.bipush 59, 2) := by decide +kernel
theorem dX12_takesItem_81 : decode cX12_takesItem 81 = .ok (.if_icmp .ne 7, 3) := by decide +kernel
theorem dX12_takesItem_84 : decode cX12_takesItem 84 = .ok (.iconst 1, 1) := by decide +kernel
theorem dX12_takesItem_85 : decode cX12_takesItem 85 = .ok (.goto 4, 3) := by decide +kernel
theorem dX12_takesItem_88 : decode cX12_takesItem 88 = .ok (.iconst 0, 1) := by decide +kernel
theorem dX12_takesItem_89 : decode cX12_takesItem 89 = .ok (.ireturn, 1) := by decide +kernel
theorem dX12_read_0 : decode cX12_read 0 = .ok (.aload_n 0, 1) := by decide +kernel
theorem dX12_read_1 : decode cX12_read 1 = .ok (.iconst 0, 1) := by decide +kernel
theorem dX12_read_2 : decode cX12_read 2 = .ok (.putfield 84, 3) := by decide +kernel
theorem dX12_read_5 : decode cX12_read 5 = .ok (.iconst 0, 1) := by decide +kernel
theorem dX12_read_6 : decode cX12_read 6 = .ok (.istore_n 1, 1) := by decide +kernel
theorem dX12_read_7 : decode cX12_read 7 = .ok (.aload_n 0, 1) := by decide +kernel
theorem dX12_read_8 : decode cX12_read 8 = .ok (.sipush 240, 3) := by decide +kernel
theorem dX12_read_11 : decode cX12_read 11 = .ok (.iconst 0, 1) := by decide +kernel
theorem dX12_read_12 : decode cX12_read 12 = .ok (.iconst 0, 1) := by decide +kernel
theorem dX12_read_13 : decode cX12_read 13 = .ok (.invokevirtual 30, 3) := by decide +kernel
theorem dX12_read_16 : decode cX12_read 16 = .ok (.aload_n 0, 1) := by decide +kernel
theorem dX12_read_17 : decode cX12_read 17 = .ok (.invokevirtual 112, 3) := by decide +kernel
theorem dX12_read_20 : decode cX12_read 20 = .ok (.aload_n 0, 1) := by decide +kernel
theorem dX12_read_21 : decode cX12_read 21 = .ok (.getfield 91, 3) := by decide +kernel
theorem dX12_read_24 : decode cX12_read 24 = .ok (.aload_n 0, 1) := by decide +kernel
theorem dX12_read_25 : decode cX12_read 25 = .ok (.getfield 80, 3) := by decide +kernel
theorem dX12_read_28 : decode cX12_read 28 = .ok (.if_icmp .lt 7, 3) := by decide +kernel
theorem dX12_read_31 : decode cX12_read 31 = .ok (.iload_n 1, 1) := by decide +kernel
theorem dX12_read_32 : decode cX12_read 32 = .ok (.ifCond .ne 29, 3) := by decide +kernel
theorem dX12_read_35 : decode cX12_read 35 = .ok (.aload_n 0, 1) := by decide +kernel
theorem dX12_read_36 : decode cX12_read 36 = .ok (.iload_n 1, 1) := by decide +kernel
theorem dX12_read_37 : decode cX12_read 37 = .ok (.invokevirtual 132, 3) := by decide +kernel
theorem dX12_read_40 : decode cX12_read 40 = .ok (.ifCond .ne 11, 3) := by decide +kernel
theorem dX12_read_43 : decode cX12_read 43 = .ok (.bipush (-10), 2) := by decide +kernel
theorem dX12_read_45 : decode cX12_read 45 = .ok (.aload_n 0, 1) := by decide +kernel
theorem dX12_read_46 : decode cX12_read 46 = .ok (.getfield 91, 3) := by decide +kernel
theorem dX12_read_49 : decode cX12_read 49 = .ok (.isub, 1) := by decide +kernel
theorem dX12_read_50 : decode cX12_read 50 = .ok (.ireturn, 1) := by decide +kernel
theorem dX12_read_51 : decode cX12_read 51 = .ok (.iinc 1 1, 3) := by decide +kernel
theorem dX12_read_54 : decode cX12_read 54 = .ok (.aload_n 0, 1) := by decide +kernel
theorem dX12_read_55 : decode cX12_read 55 = .ok (.invokevirtual 112, 3) := by decide +kernel
theorem dX12_read_58 : decode cX12_read 58 = .ok (.goto (-38), 3) := by decide +kernel
theorem dX12_read_61 : decode cX12_read 61 = .ok (.aload_n 0, 1) := by decide +kernel
theorem dX12_read_62 : decode cX12_read 62 = .ok (.sipush 240, 3) := by decide +kernel
theorem dX12_read_65 : decode cX12_read 65 = .ok (.iconst 0, 1) := by decide +kernel
theorem dX12_read_66 : decode cX12_read 66 = .ok (.invokevirtual 135, 3) := by decide +kernel
theorem dX12_read_69 : decode cX12_read 69 = .ok (.iload_n 1, 1) := by decide +kernel
theorem dX12_read_70 : decode cX12_read 70 = .ok (.ireturn, 1) := by decide +kernel
theorem dX12_goodOf_0 : decode cX12_goodOf 0 = .ok (.iload_n 0, 1) := by decide +kernel
theorem dX12_goodOf_1 : decode cX12_goodOf 1 = .ok (.tableswitch 53 1 5 #[35, 53, 37, 43, 45], 35) := by decide +kernel
theorem dX12_goodOf_36 : decode cX12_goodOf 36 = .ok (.iconst 0, 1) := by decide +kernel
theorem dX12_goodOf_37 : decode cX12_goodOf 37 = .ok (.ireturn, 1) := by decide +kernel
theorem dX12_goodOf_38 : decode cX12_goodOf 38 = .ok (.iconst 3, 1) := by decide +kernel
theorem dX12_goodOf_39 : decode cX12_goodOf 39 = .ok (.iload_n 1, 1) := by decide +kernel
theorem dX12_goodOf_40 : decode cX12_goodOf 40 = .ok (.imul, 1) := by decide +kernel
theorem dX12_goodOf_41 : decode cX12_goodOf 41 = .ok (.iconst 4, 1) := by decide +kernel
theorem dX12_goodOf_42 : decode cX12_goodOf 42 = .ok (.idiv, 1) := by decide +kernel
theorem dX12_goodOf_43 : decode cX12_goodOf 43 = .ok (.ireturn, 1) := by decide +kernel
theorem dX12_goodOf_44 : decode cX12_goodOf 44 = .ok (.iconst 5, 1) := by decide +kernel
theorem dX12_goodOf_45 : decode cX12_goodOf 45 = .ok (.ireturn, 1) := by decide +kernel
theorem dX12_goodOf_46 : decode cX12_goodOf 46 = .ok (.iconst 3, 1) := by decide +kernel
theorem dX12_goodOf_47 : decode cX12_goodOf 47 = .ok (.iload_n 1, 1) := by decide +kernel
theorem dX12_goodOf_48 : decode cX12_goodOf 48 = .ok (.imul, 1) := by decide +kernel
theorem dX12_goodOf_49 : decode cX12_goodOf 49 = .ok (.iconst 4, 1) := by decide +kernel
theorem dX12_goodOf_50 : decode cX12_goodOf 50 = .ok (.idiv, 1) := by decide +kernel
theorem dX12_goodOf_51 : decode cX12_goodOf 51 = .ok (.iconst 2, 1) := by decide +kernel
theorem dX12_goodOf_52 : decode cX12_goodOf 52 = .ok (.idiv, 1) := by decide +kernel
theorem dX12_goodOf_53 : decode cX12_goodOf 53 = .ok (.ireturn, 1) := by decide +kernel
theorem dX12_goodOf_54 : decode cX12_goodOf 54 = .ok (.iload_n 1, 1) := by decide +kernel
theorem dX12_goodOf_55 : decode cX12_goodOf 55 = .ok (.ireturn, 1) := by decide +kernel
theorem dX12_bearsOf_0 : decode cX12_bearsOf 0 = .ok (.iload_n 0, 1) := by decide +kernel
theorem dX12_bearsOf_1 : decode cX12_bearsOf 1 = .ok (.tableswitch 41 2 5 #[31, 41, 35, 37], 31) := by decide +kernel
theorem dX12_bearsOf_32 : decode cX12_bearsOf 32 = .ok (.iload_n 1, 1) := by decide +kernel
theorem dX12_bearsOf_33 : decode cX12_bearsOf 33 = .ok (.iconst 2, 1) := by decide +kernel
theorem dX12_bearsOf_34 : decode cX12_bearsOf 34 = .ok (.idiv, 1) := by decide +kernel
theorem dX12_bearsOf_35 : decode cX12_bearsOf 35 = .ok (.ireturn, 1) := by decide +kernel
theorem dX12_bearsOf_36 : decode cX12_bearsOf 36 = .ok (.iconst 0, 1) := by decide +kernel
theorem dX12_bearsOf_37 : decode cX12_bearsOf 37 = .ok (.ireturn, 1) := by decide +kernel
theorem dX12_bearsOf_38 : decode cX12_bearsOf 38 = .ok (.iload_n 1, 1) := by decide +kernel
theorem dX12_bearsOf_39 : decode cX12_bearsOf 39 = .ok (.iconst 3, 1) := by decide +kernel
theorem dX12_bearsOf_40 : decode cX12_bearsOf 40 = .ok (.iadd, 1) := by decide +kernel
theorem dX12_bearsOf_41 : decode cX12_bearsOf 41 = .ok (.ireturn, 1) := by decide +kernel
theorem dX12_bearsOf_42 : decode cX12_bearsOf 42 = .ok (.iload_n 1, 1) := by decide +kernel
theorem dX12_bearsOf_43 : decode cX12_bearsOf 43 = .ok (.ireturn, 1) := by decide +kernel
theorem dX12_madeGood_0 : decode cX12_madeGood 0 = .ok (.aload_n 0, 1) := by decide +kernel
theorem dX12_madeGood_1 : decode cX12_madeGood 1 = .ok (.getfield 7, 3) := by decide +kernel
theorem dX12_madeGood_4 : decode cX12_madeGood 4 = .ok (.bipush 6, 2) := by decide +kernel
theorem dX12_madeGood_6 : decode cX12_madeGood 6 = .ok (.iload_n 1, 1) := by decide +kernel
theorem dX12_madeGood_7 : decode cX12_madeGood 7 = .ok (.iadd, 1) := by decide +kernel
theorem dX12_madeGood_8 : decode cX12_madeGood 8 = .ok (.iaload, 1) := by decide +kernel
theorem dX12_madeGood_9 : decode cX12_madeGood 9 = .ok (.aload_n 0, 1) := by decide +kernel
theorem dX12_madeGood_10 : decode cX12_madeGood 10 = .ok (.getfield 7, 3) := by decide +kernel
theorem dX12_madeGood_13 : decode cX12_madeGood 13 = .ok (.bipush 46, 2) := by decide +kernel
theorem dX12_madeGood_15 : decode cX12_madeGood 15 = .ok (.iload_n 1, 1) := by decide +kernel
theorem dX12_madeGood_16 : decode cX12_madeGood 16 = .ok (.iadd, 1) := by decide +kernel
theorem dX12_madeGood_17 : decode cX12_madeGood 17 = .ok (.iaload, 1) := by decide +kernel
theorem dX12_madeGood_18 : decode cX12_madeGood 18 = .ok (.invokestatic 139, 3) := by decide +kernel
theorem dX12_madeGood_21 : decode cX12_madeGood 21 = .ok (.ireturn, 1) := by decide +kernel
theorem dX12_lossOf_0 : decode cX12_lossOf 0 = .ok (.iconst 0, 1) := by decide +kernel
theorem dX12_lossOf_1 : decode cX12_lossOf 1 = .ok (.istore_n 2, 1) := by decide +kernel
theorem dX12_lossOf_2 : decode cX12_lossOf 2 = .ok (.iconst 0, 1) := by decide +kernel
theorem dX12_lossOf_3 : decode cX12_lossOf 3 = .ok (.istore_n 3, 1) := by decide +kernel
theorem dX12_lossOf_4 : decode cX12_lossOf 4 = .ok (.iload_n 3, 1) := by decide +kernel
theorem dX12_lossOf_5 : decode cX12_lossOf 5 = .ok (.aload_n 0, 1) := by decide +kernel
theorem dX12_lossOf_6 : decode cX12_lossOf 6 = .ok (.getfield 7, 3) := by decide +kernel
theorem dX12_lossOf_9 : decode cX12_lossOf 9 = .ok (.iconst 0, 1) := by decide +kernel
theorem dX12_lossOf_10 : decode cX12_lossOf 10 = .ok (.iaload, 1) := by decide +kernel
theorem dX12_lossOf_11 : decode cX12_lossOf 11 = .ok (.if_icmp .ge 52, 3) := by decide +kernel
theorem dX12_lossOf_14 : decode cX12_lossOf 14 = .ok (.iload_n 2, 1) := by decide +kernel
theorem dX12_lossOf_15 : decode cX12_lossOf 15 = .ok (.aload_n 0, 1) := by decide +kernel
theorem dX12_lossOf_16 : decode cX12_lossOf 16 = .ok (.getfield 7, 3) := by decide +kernel
theorem dX12_lossOf_19 : decode cX12_lossOf 19 = .ok (.iconst 5, 1) := by decide +kernel
theorem dX12_lossOf_20 : decode cX12_lossOf 20 = .ok (.iaload, 1) := by decide +kernel
theorem dX12_lossOf_21 : decode cX12_lossOf 21 = .ok (.iload_n 3, 1) := by decide +kernel
theorem dX12_lossOf_22 : decode cX12_lossOf 22 = .ok (.invokestatic 70, 3) := by decide +kernel
theorem dX12_lossOf_25 : decode cX12_lossOf 25 = .ok (.ifCond .ne 29, 3) := by decide +kernel
theorem dX12_lossOf_28 : decode cX12_lossOf 28 = .ok (.iload_n 1, 1) := by decide +kernel
theorem dX12_lossOf_29 : decode cX12_lossOf 29 = .ok (.iconst (-1), 1) := by decide +kernel
theorem dX12_lossOf_30 : decode cX12_lossOf 30 = .ok (.if_icmp .eq 16, 3) := by decide +kernel
theorem dX12_lossOf_33 : decode cX12_lossOf 33 = .ok (.aload_n 0, 1) := by decide +kernel
theorem dX12_lossOf_34 : decode cX12_lossOf 34 = .ok (.getfield 7, 3) := by decide +kernel
theorem dX12_lossOf_37 : decode cX12_lossOf 37 = .ok (.bipush 14, 2) := by decide +kernel
theorem dX12_lossOf_39 : decode cX12_lossOf 39 = .ok (.iload_n 3, 1) := by decide +kernel
theorem dX12_lossOf_40 : decode cX12_lossOf 40 = .ok (.iadd, 1) := by decide +kernel
theorem dX12_lossOf_41 : decode cX12_lossOf 41 = .ok (.iaload, 1) := by decide +kernel
theorem dX12_lossOf_42 : decode cX12_lossOf 42 = .ok (.iload_n 1, 1) := by decide +kernel
theorem dX12_lossOf_43 : decode cX12_lossOf 43 = .ok (.if_icmp .ne 11, 3) := by decide +kernel
theorem dX12_lossOf_46 : decode cX12_lossOf 46 = .ok (.aload_n 0, 1) := by decide +kernel
theorem dX12_lossOf_47 : decode cX12_lossOf 47 = .ok (.iload_n 3, 1) := by decide +kernel
theorem dX12_lossOf_48 : decode cX12_lossOf 48 = .ok (.invokevirtual 143, 3) := by decide +kernel
theorem dX12_lossOf_51 : decode cX12_lossOf 51 = .ok (.goto 4, 3) := by decide +kernel
theorem dX12_lossOf_54 : decode cX12_lossOf 54 = .ok (.iconst 0, 1) := by decide +kernel
theorem dX12_lossOf_55 : decode cX12_lossOf 55 = .ok (.iadd, 1) := by decide +kernel
theorem dX12_lossOf_56 : decode cX12_lossOf 56 = .ok (.istore_n 2, 1) := by decide +kernel
theorem dX12_lossOf_57 : decode cX12_lossOf 57 = .ok (.iinc 3 1, 3) := by decide +kernel
theorem dX12_lossOf_60 : decode cX12_lossOf 60 = .ok (.goto (-56), 3) := by decide +kernel
theorem dX12_lossOf_63 : decode cX12_lossOf 63 = .ok (.iload_n 2, 1) := by decide +kernel
theorem dX12_lossOf_64 : decode cX12_lossOf 64 = .ok (.ireturn, 1) := by decide +kernel
theorem dX12_bears_0 : decode cX12_bears 0 = .ok (.iload_n 1, 1) := by decide +kernel
theorem dX12_bears_1 : decode cX12_bears 1 = .ok (.iconst (-1), 1) := by decide +kernel
theorem dX12_bears_2 : decode cX12_bears 2 = .ok (.if_icmp .eq 8, 3) := by decide +kernel
theorem dX12_bears_5 : decode cX12_bears 5 = .ok (.iload_n 1, 1) := by decide +kernel
theorem dX12_bears_6 : decode cX12_bears 6 = .ok (.iconst 4, 1) := by decide +kernel
theorem dX12_bears_7 : decode cX12_bears 7 = .ok (.if_icmp .ne 12, 3) := by decide +kernel
theorem dX12_bears_10 : decode cX12_bears 10 = .ok (.aload_n 0, 1) := by decide +kernel
theorem dX12_bears_11 : decode cX12_bears 11 = .ok (.getfield 7, 3) := by decide +kernel
theorem dX12_bears_14 : decode cX12_bears 14 = .ok (.iconst 1, 1) := by decide +kernel
theorem dX12_bears_15 : decode cX12_bears 15 = .ok (.iaload, 1) := by decide +kernel
theorem dX12_bears_16 : decode cX12_bears 16 = .ok (.goto 4, 3) := by decide +kernel
theorem dX12_bears_19 : decode cX12_bears 19 = .ok (.iconst 0, 1) := by decide +kernel
theorem dX12_bears_20 : decode cX12_bears 20 = .ok (.istore_n 2, 1) := by decide +kernel
theorem dX12_bears_21 : decode cX12_bears 21 = .ok (.iconst 0, 1) := by decide +kernel
theorem dX12_bears_22 : decode cX12_bears 22 = .ok (.istore_n 3, 1) := by decide +kernel
theorem dX12_bears_23 : decode cX12_bears 23 = .ok (.iload_n 3, 1) := by decide +kernel
theorem dX12_bears_24 : decode cX12_bears 24 = .ok (.aload_n 0, 1) := by decide +kernel
theorem dX12_bears_25 : decode cX12_bears 25 = .ok (.getfield 7, 3) := by decide +kernel
theorem dX12_bears_28 : decode cX12_bears 28 = .ok (.iconst 0, 1) := by decide +kernel
theorem dX12_bears_29 : decode cX12_bears 29 = .ok (.iaload, 1) := by decide +kernel
theorem dX12_bears_30 : decode cX12_bears 30 = .ok (.if_icmp .ge 55, 3) := by decide +kernel
theorem dX12_bears_33 : decode cX12_bears 33 = .ok (.iload_n 2, 1) := by decide +kernel
theorem dX12_bears_34 : decode cX12_bears 34 = .ok (.iload_n 1, 1) := by decide +kernel
theorem dX12_bears_35 : decode cX12_bears 35 = .ok (.iconst (-1), 1) := by decide +kernel
theorem dX12_bears_36 : decode cX12_bears 36 = .ok (.if_icmp .eq 16, 3) := by decide +kernel
theorem dX12_bears_39 : decode cX12_bears 39 = .ok (.aload_n 0, 1) := by decide +kernel
theorem dX12_bears_40 : decode cX12_bears 40 = .ok (.getfield 7, 3) := by decide +kernel
theorem dX12_bears_43 : decode cX12_bears 43 = .ok (.bipush 14, 2) := by decide +kernel
theorem dX12_bears_45 : decode cX12_bears 45 = .ok (.iload_n 3, 1) := by decide +kernel
theorem dX12_bears_46 : decode cX12_bears 46 = .ok (.iadd, 1) := by decide +kernel
theorem dX12_bears_47 : decode cX12_bears 47 = .ok (.iaload, 1) := by decide +kernel
theorem dX12_bears_48 : decode cX12_bears 48 = .ok (.iload_n 1, 1) := by decide +kernel
theorem dX12_bears_49 : decode cX12_bears 49 = .ok (.if_icmp .ne 27, 3) := by decide +kernel
theorem dX12_bears_52 : decode cX12_bears 52 = .ok (.aload_n 0, 1) := by decide +kernel
theorem dX12_bears_53 : decode cX12_bears 53 = .ok (.getfield 7, 3) := by decide +kernel
theorem dX12_bears_56 : decode cX12_bears 56 = .ok (.bipush 6, 2) := by decide +kernel
theorem dX12_bears_58 : decode cX12_bears 58 = .ok (.iload_n 3, 1) := by decide +kernel
theorem dX12_bears_59 : decode cX12_bears 59 = .ok (.iadd, 1) := by decide +kernel
theorem dX12_bears_60 : decode cX12_bears 60 = .ok (.iaload, 1) := by decide +kernel
theorem dX12_bears_61 : decode cX12_bears 61 = .ok (.aload_n 0, 1) := by decide +kernel
theorem dX12_bears_62 : decode cX12_bears 62 = .ok (.getfield 7, 3) := by decide +kernel
theorem dX12_bears_65 : decode cX12_bears 65 = .ok (.bipush 46, 2) := by decide +kernel
theorem dX12_bears_67 : decode cX12_bears 67 = .ok (.iload_n 3, 1) := by decide +kernel
theorem dX12_bears_68 : decode cX12_bears 68 = .ok (.iadd, 1) := by decide +kernel
theorem dX12_bears_69 : decode cX12_bears 69 = .ok (.iaload, 1) := by decide +kernel
theorem dX12_bears_70 : decode cX12_bears 70 = .ok (.invokestatic 146, 3) := by decide +kernel
theorem dX12_bears_73 : decode cX12_bears 73 = .ok (.goto 4, 3) := by decide +kernel
theorem dX12_bears_76 : decode cX12_bears 76 = .ok (.iconst 0, 1) := by decide +kernel
theorem dX12_bears_77 : decode cX12_bears 77 = .ok (.iadd, 1) := by decide +kernel
theorem dX12_bears_78 : decode cX12_bears 78 = .ok (.istore_n 2, 1) := by decide +kernel
theorem dX12_bears_79 : decode cX12_bears 79 = .ok (.iinc 3 1, 3) := by decide +kernel
theorem dX12_bears_82 : decode cX12_bears 82 = .ok (.goto (-59), 3) := by decide +kernel
theorem dX12_bears_85 : decode cX12_bears 85 = .ok (.iload_n 2, 1) := by decide +kernel
theorem dX12_bears_86 : decode cX12_bears 86 = .ok (.ireturn, 1) := by decide +kernel
theorem dX12_over_0 : decode cX12_over 0 = .ok (.aload_n 0, 1) := by decide +kernel
theorem dX12_over_1 : decode cX12_over 1 = .ok (.iload_n 1, 1) := by decide +kernel
theorem dX12_over_2 : decode cX12_over 2 = .ok (.invokevirtual 67, 3) := by decide +kernel
theorem dX12_over_5 : decode cX12_over 5 = .ok (.ifCond .ne 8, 3) := by decide +kernel
theorem dX12_over_8 : decode cX12_over 8 = .ok (.aload_n 0, 1) := by decide +kernel
theorem dX12_over_9 : decode cX12_over 9 = .ok (.invokevirtual 44, 3) := by decide +kernel
theorem dX12_over_12 : decode cX12_over 12 = .ok (.ireturn, 1) := by decide +kernel
theorem dX12_over_13 : decode cX12_over 13 = .ok (.aload_n 0, 1) := by decide +kernel
theorem dX12_over_14 : decode cX12_over 14 = .ok (.iload_n 1, 1) := by decide +kernel
theorem dX12_over_15 : decode cX12_over 15 = .ok (.invokevirtual 149, 3) := by decide +kernel
theorem dX12_over_18 : decode cX12_over 18 = .ok (.ifCond .ne 8, 3) := by decide +kernel
theorem dX12_over_21 : decode cX12_over 21 = .ok (.aload_n 0, 1) := by decide +kernel
theorem dX12_over_22 : decode cX12_over 22 = .ok (.invokevirtual 152, 3) := by decide +kernel
theorem dX12_over_25 : decode cX12_over 25 = .ok (.ireturn, 1) := by decide +kernel
theorem dX12_over_26 : decode cX12_over 26 = .ok (.aload_n 0, 1) := by decide +kernel
theorem dX12_over_27 : decode cX12_over 27 = .ok (.getfield 7, 3) := by decide +kernel
theorem dX12_over_30 : decode cX12_over 30 = .ok (.iconst 4, 1) := by decide +kernel
theorem dX12_over_31 : decode cX12_over 31 = .ok (.iaload, 1) := by decide +kernel
theorem dX12_over_32 : decode cX12_over 32 = .ok (.bipush 8, 2) := by decide +kernel
theorem dX12_over_34 : decode cX12_over 34 = .ok (.if_icmp .ne 47, 3) := by decide +kernel
theorem dX12_over_37 : decode cX12_over 37 = .ok (.iconst 0, 1) := by decide +kernel
theorem dX12_over_38 : decode cX12_over 38 = .ok (.istore_n 2, 1) := by decide +kernel
theorem dX12_over_39 : decode cX12_over 39 = .ok (.iload_n 2, 1) := by decide +kernel
theorem dX12_over_40 : decode cX12_over 40 = .ok (.bipush 7, 2) := by decide +kernel
theorem dX12_over_42 : decode cX12_over 42 = .ok (.if_icmp .ge 29, 3) := by decide +kernel
theorem dX12_over_45 : decode cX12_over 45 = .ok (.aload_n 0, 1) := by decide +kernel
theorem dX12_over_46 : decode cX12_over 46 = .ok (.getfield 7, 3) := by decide +kernel
theorem dX12_over_49 : decode cX12_over 49 = .ok (.bipush 72, 2) := by decide +kernel
theorem dX12_over_51 : decode cX12_over 51 = .ok (.iload_n 2, 1) := by decide +kernel
theorem dX12_over_52 : decode cX12_over 52 = .ok (.iadd, 1) := by decide +kernel
theorem dX12_over_53 : decode cX12_over 53 = .ok (.aload_n 0, 1) := by decide +kernel
theorem dX12_over_54 : decode cX12_over 54 = .ok (.getfield 7, 3) := by decide +kernel
theorem dX12_over_57 : decode cX12_over 57 = .ok (.bipush 72, 2) := by decide +kernel
theorem dX12_over_59 : decode cX12_over 59 = .ok (.iload_n 2, 1) := by decide +kernel
theorem dX12_over_60 : decode cX12_over 60 = .ok (.iadd, 1) := by decide +kernel
theorem dX12_over_61 : decode cX12_over 61 = .ok (.iconst 1, 1) := by decide +kernel
theorem dX12_over_62 : decode cX12_over 62 = .ok (.iadd, 1) := by decide +kernel
theorem dX12_over_63 : decode cX12_over 63 = .ok (.iaload, 1) := by decide +kernel
theorem dX12_over_64 : decode cX12_over 64 = .ok (.iastore, 1) := by decide +kernel
theorem dX12_over_65 : decode cX12_over 65 = .ok (.iinc 2 1, 3) := by decide +kernel
theorem dX12_over_68 : decode cX12_over 68 = .ok (.goto (-29), 3) := by decide +kernel
theorem dX12_over_71 : decode cX12_over 71 = .ok (.aload_n 0, 1) := by decide +kernel
theorem dX12_over_72 : decode cX12_over 72 = .ok (.getfield 7, 3) := by decide +kernel
theorem dX12_over_75 : decode cX12_over 75 = .ok (.iconst 4, 1) := by decide +kernel
theorem dX12_over_76 : decode cX12_over 76 = .ok (.dup2, 1) := by decide +kernel
theorem dX12_over_77 : decode cX12_over 77 = .ok (.iaload, 1) := by decide +kernel
theorem dX12_over_78 : decode cX12_over 78 = .ok (.iconst 1, 1) := by decide +kernel
theorem dX12_over_79 : decode cX12_over 79 = .ok (.isub, 1) := by decide +kernel
theorem dX12_over_80 : decode cX12_over 80 = .ok (.iastore, 1) := by decide +kernel
theorem dX12_over_81 : decode cX12_over 81 = .ok (.aload_n 0, 1) := by decide +kernel
theorem dX12_over_82 : decode cX12_over 82 = .ok (.getfield 7, 3) := by decide +kernel
theorem dX12_over_85 : decode cX12_over 85 = .ok (.bipush 72, 2) := by decide +kernel
theorem dX12_over_87 : decode cX12_over 87 = .ok (.aload_n 0, 1) := by decide +kernel
theorem dX12_over_88 : decode cX12_over 88 = .ok (.getfield 7, 3) := by decide +kernel
theorem dX12_over_91 : decode cX12_over 91 = .ok (.iconst 4, 1) := by decide +kernel
theorem dX12_over_92 : decode cX12_over 92 = .ok (.iaload, 1) := by decide +kernel
theorem dX12_over_93 : decode cX12_over 93 = .ok (.iadd, 1) := by decide +kernel
theorem dX12_over_94 : decode cX12_over 94 = .ok (.aload_n 0, 1) := by decide +kernel
theorem dX12_over_95 : decode cX12_over 95 = .ok (.getfield 7, 3) := by decide +kernel
theorem dX12_over_98 : decode cX12_over 98 = .ok (.iconst 5, 1) := by decide +kernel
theorem dX12_over_99 : decode cX12_over 99 = .ok (.iaload, 1) := by decide +kernel
theorem dX12_over_100 : decode cX12_over 100 = .ok (.iastore, 1) := by decide +kernel
theorem dX12_over_101 : decode cX12_over 101 = .ok (.aload_n 0, 1) := by decide +kernel
theorem dX12_over_102 : decode cX12_over 102 = .ok (.getfield 7, 3) := by decide +kernel
theorem dX12_over_105 : decode cX12_over 105 = .ok (.iconst 4, 1) := by decide +kernel
theorem dX12_over_106 : decode cX12_over 106 = .ok (.dup2, 1) := by decide +kernel
theorem dX12_over_107 : decode cX12_over 107 = .ok (.iaload, 1) := by decide +kernel
theorem dX12_over_108 : decode cX12_over 108 = .ok (.iconst 1, 1) := by decide +kernel
theorem dX12_over_109 : decode cX12_over 109 = .ok (.iadd, 1) := by decide +kernel
theorem dX12_over_110 : decode cX12_over 110 = .ok (.iastore, 1) := by decide +kernel
theorem dX12_over_111 : decode cX12_over 111 = .ok (.aload_n 0, 1) := by decide +kernel
theorem dX12_over_112 : decode cX12_over 112 = .ok (.getfield 7, 3) := by decide +kernel
theorem dX12_over_115 : decode cX12_over 115 = .ok (.iconst 5, 1) := by decide +kernel
theorem dX12_over_116 : decode cX12_over 116 = .ok (.dup2, 1) := by decide +kernel
theorem dX12_over_117 : decode cX12_over 117 = .ok (.iaload, 1) := by decide +kernel
theorem dX12_over_118 : decode cX12_over 118 = .ok (.iconst 1, 1) := by decide +kernel
theorem dX12_over_119 : decode cX12_over 119 = .ok (.iload_n 1, 1) := by decide +kernel
theorem dX12_over_120 : decode cX12_over 120 = .ok (.ishl, 1) := by decide +kernel
theorem dX12_over_121 : decode cX12_over 121 = .ok (.iconst (-1), 1) := by decide +kernel
theorem dX12_over_122 : decode cX12_over 122 = .ok (.ixor, 1) := by decide +kernel
theorem dX12_over_123 : decode cX12_over 123 = .ok (.iand, 1) := by decide +kernel
theorem dX12_over_124 : decode cX12_over 124 = .ok (.iastore, 1) := by decide +kernel
theorem dX12_over_125 : decode cX12_over 125 = .ok (.aload_n 0, 1) := by decide +kernel
theorem dX12_over_126 : decode cX12_over 126 = .ok (.iload_n 1, 1) := by decide +kernel
theorem dX12_over_127 : decode cX12_over 127 = .ok (.invokevirtual 143, 3) := by decide +kernel
theorem dX12_over_130 : decode cX12_over 130 = .ok (.ireturn, 1) := by decide +kernel
theorem dX12_undo_0 : decode cX12_undo 0 = .ok (.aload_n 0, 1) := by decide +kernel
theorem dX12_undo_1 : decode cX12_undo 1 = .ok (.getfield 7, 3) := by decide +kernel
theorem dX12_undo_4 : decode cX12_undo 4 = .ok (.iconst 4, 1) := by decide +kernel
theorem dX12_undo_5 : decode cX12_undo 5 = .ok (.iaload, 1) := by decide +kernel
theorem dX12_undo_6 : decode cX12_undo 6 = .ok (.ifCond .ne 8, 3) := by decide +kernel
theorem dX12_undo_9 : decode cX12_undo 9 = .ok (.aload_n 0, 1) := by decide +kernel
theorem dX12_undo_10 : decode cX12_undo 10 = .ok (.invokevirtual 152, 3) := by decide +kernel
theorem dX12_undo_13 : decode cX12_undo 13 = .ok (.ireturn, 1) := by decide +kernel
theorem dX12_undo_14 : decode cX12_undo 14 = .ok (.aload_n 0, 1) := by decide +kernel
theorem dX12_undo_15 : decode cX12_undo 15 = .ok (.getfield 7, 3) := by decide +kernel
theorem dX12_undo_18 : decode cX12_undo 18 = .ok (.iconst 4, 1) := by decide +kernel
theorem dX12_undo_19 : decode cX12_undo 19 = .ok (.dup2, 1) := by decide +kernel
theorem dX12_undo_20 : decode cX12_undo 20 = .ok (.iaload, 1) := by decide +kernel
theorem dX12_undo_21 : decode cX12_undo 21 = .ok (.iconst 1, 1) := by decide +kernel
theorem dX12_undo_22 : decode cX12_undo 22 = .ok (.isub, 1) := by decide +kernel
theorem dX12_undo_23 : decode cX12_undo 23 = .ok (.iastore, 1) := by decide +kernel
theorem dX12_undo_24 : decode cX12_undo 24 = .ok (.aload_n 0, 1) := by decide +kernel
theorem dX12_undo_25 : decode cX12_undo 25 = .ok (.getfield 7, 3) := by decide +kernel
theorem dX12_undo_28 : decode cX12_undo 28 = .ok (.iconst 5, 1) := by decide +kernel
theorem dX12_undo_29 : decode cX12_undo 29 = .ok (.aload_n 0, 1) := by decide +kernel
theorem dX12_undo_30 : decode cX12_undo 30 = .ok (.getfield 7, 3) := by decide +kernel
theorem dX12_undo_33 : decode cX12_undo 33 = .ok (.bipush 72, 2) := by decide +kernel
theorem dX12_undo_35 : decode cX12_undo 35 = .ok (.aload_n 0, 1) := by decide +kernel
theorem dX12_undo_36 : decode cX12_undo 36 = .ok (.getfield 7, 3) := by decide +kernel
theorem dX12_undo_39 : decode cX12_undo 39 = .ok (.iconst 4, 1) := by decide +kernel
theorem dX12_undo_40 : decode cX12_undo 40 = .ok (.iaload, 1) := by decide +kernel
theorem dX12_undo_41 : decode cX12_undo 41 = .ok (.iadd, 1) := by decide +kernel
theorem dX12_undo_42 : decode cX12_undo 42 = .ok (.iaload, 1) := by decide +kernel
theorem dX12_undo_43 : decode cX12_undo 43 = .ok (.iastore, 1) := by decide +kernel
theorem dX12_undo_44 : decode cX12_undo 44 = .ok (.aload_n 0, 1) := by decide +kernel
theorem dX12_undo_45 : decode cX12_undo 45 = .ok (.getfield 7, 3) := by decide +kernel
theorem dX12_undo_48 : decode cX12_undo 48 = .ok (.iconst 5, 1) := by decide +kernel
theorem dX12_undo_49 : decode cX12_undo 49 = .ok (.iaload, 1) := by decide +kernel
theorem dX12_undo_50 : decode cX12_undo 50 = .ok (.invokestatic 155, 3) := by decide +kernel
theorem dX12_undo_53 : decode cX12_undo 53 = .ok (.ireturn, 1) := by decide +kernel
theorem dX12_of_0 : decode cX12_of 0 = .ok (.aload_n 0, 1) := by decide +kernel
theorem dX12_of_1 : decode cX12_of 1 = .ok (.iload_n 1, 1) := by decide +kernel
theorem dX12_of_2 : decode cX12_of 2 = .ok (.invokevirtual 67, 3) := by decide +kernel
theorem dX12_of_5 : decode cX12_of 5 = .ok (.ifCond .eq 15, 3) := by decide +kernel
theorem dX12_of_8 : decode cX12_of 8 = .ok (.iload_n 2, 1) := by decide +kernel
theorem dX12_of_9 : decode cX12_of 9 = .ok (.i2l, 1) := by decide +kernel
theorem dX12_of_10 : decode cX12_of 10 = .ok (.lconst 0, 1) := by decide +kernel
theorem dX12_of_11 : decode cX12_of 11 = .ok (.ldc2_w 158, 3) := by decide +kernel
theorem dX12_of_14 : decode cX12_of 14 = .ok (.invokestatic 34, 3) := by decide +kernel
theorem dX12_of_17 : decode cX12_of 17 = .ok (.ifCond .ne 8, 3) := by decide +kernel
theorem dX12_of_20 : decode cX12_of 20 = .ok (.aload_n 0, 1) := by decide +kernel
theorem dX12_of_21 : decode cX12_of 21 = .ok (.invokevirtual 44, 3) := by decide +kernel
theorem dX12_of_24 : decode cX12_of 24 = .ok (.ireturn, 1) := by decide +kernel
theorem dX12_of_25 : decode cX12_of 25 = .ok (.iload_n 2, 1) := by decide +kernel
theorem dX12_of_26 : decode cX12_of 26 = .ok (.bipush 6, 2) := by decide +kernel
theorem dX12_of_28 : decode cX12_of 28 = .ok (.if_icmp .ge 18, 3) := by decide +kernel
theorem dX12_of_31 : decode cX12_of 31 = .ok (.aload_n 0, 1) := by decide +kernel
theorem dX12_of_32 : decode cX12_of 32 = .ok (.getfield 7, 3) := by decide +kernel
theorem dX12_of_35 : decode cX12_of 35 = .ok (.bipush 6, 2) := by decide +kernel
theorem dX12_of_37 : decode cX12_of 37 = .ok (.bipush 8, 2) := by decide +kernel
theorem dX12_of_39 : decode cX12_of 39 = .ok (.iload_n 2, 1) := by decide +kernel
theorem dX12_of_40 : decode cX12_of 40 = .ok (.imul, 1) := by decide +kernel
theorem dX12_of_41 : decode cX12_of 41 = .ok (.iadd, 1) := by decide +kernel
theorem dX12_of_42 : decode cX12_of 42 = .ok (.iload_n 1, 1) := by decide +kernel
theorem dX12_of_43 : decode cX12_of 43 = .ok (.iadd, 1) := by decide +kernel
theorem dX12_of_44 : decode cX12_of 44 = .ok (.iaload, 1) := by decide +kernel
theorem dX12_of_45 : decode cX12_of 45 = .ok (.ireturn, 1) := by decide +kernel
theorem dX12_of_46 : decode cX12_of 46 = .ok (.iload_n 2, 1) := by decide +kernel
theorem dX12_of_47 : decode cX12_of 47 = .ok (.bipush 6, 2) := by decide +kernel
theorem dX12_of_49 : decode cX12_of 49 = .ok (.if_icmp .ne 19, 3) := by decide +kernel
theorem dX12_of_52 : decode cX12_of 52 = .ok (.aload_n 0, 1) := by decide +kernel
theorem dX12_of_53 : decode cX12_of 53 = .ok (.getfield 7, 3) := by decide +kernel
theorem dX12_of_56 : decode cX12_of 56 = .ok (.iconst 5, 1) := by decide +kernel
theorem dX12_of_57 : decode cX12_of 57 = .ok (.iaload, 1) := by decide +kernel
theorem dX12_of_58 : decode cX12_of 58 = .ok (.iload_n 1, 1) := by decide +kernel
theorem dX12_of_59 : decode cX12_of 59 = .ok (.invokestatic 70, 3) := by decide +kernel
theorem dX12_of_62 : decode cX12_of 62 = .ok (.ifCond .eq 18, 3) := by decide +kernel
theorem dX12_of_65 : decode cX12_of 65 = .ok (.goto 11, 3) := by decide +kernel
theorem dX12_of_68 : decode cX12_of 68 = .ok (.aload_n 0, 1) := by decide +kernel
theorem dX12_of_69 : decode cX12_of 69 = .ok (.iload_n 1, 1) := by decide +kernel
theorem dX12_of_70 : decode cX12_of 70 = .ok (.invokevirtual 149, 3) := by decide +kernel
theorem dX12_of_73 : decode cX12_of 73 = .ok (.ifCond .eq 7, 3) := by decide +kernel
theorem dX12_of_76 : decode cX12_of 76 = .ok (.iconst 1, 1) := by decide +kernel
theorem dX12_of_77 : decode cX12_of 77 = .ok (.goto 4, 3) := by decide +kernel
theorem dX12_of_80 : decode cX12_of 80 = .ok (.iconst 0, 1) := by decide +kernel
theorem dX12_of_81 : decode cX12_of 81 = .ok (.ireturn, 1) := by decide +kernel
theorem dX12_heavyOf_0 : decode cX12_heavyOf 0 = .ok (.iconst 0, 1) := by decide +kernel
theorem dX12_heavyOf_1 : decode cX12_heavyOf 1 = .ok (.istore_n 2, 1) := by decide +kernel
theorem dX12_heavyOf_2 : decode cX12_heavyOf 2 = .ok (.iconst 0, 1) := by decide +kernel
theorem dX12_heavyOf_3 : decode cX12_heavyOf 3 = .ok (.istore_n 3, 1) := by decide +kernel
theorem dX12_heavyOf_4 : decode cX12_heavyOf 4 = .ok (.iload_n 3, 1) := by decide +kernel
theorem dX12_heavyOf_5 : decode cX12_heavyOf 5 = .ok (.aload_n 0, 1) := by decide +kernel
theorem dX12_heavyOf_6 : decode cX12_heavyOf 6 = .ok (.getfield 7, 3) := by decide +kernel
theorem dX12_heavyOf_9 : decode cX12_heavyOf 9 = .ok (.iconst 0, 1) := by decide +kernel
theorem dX12_heavyOf_10 : decode cX12_heavyOf 10 = .ok (.iaload, 1) := by decide +kernel
theorem dX12_heavyOf_11 : decode cX12_heavyOf 11 = .ok (.if_icmp .ge 33, 3) := by decide +kernel
theorem dX12_heavyOf_14 : decode cX12_heavyOf 14 = .ok (.iload_n 2, 1) := by decide +kernel
theorem dX12_heavyOf_15 : decode cX12_heavyOf 15 = .ok (.iload_n 1, 1) := by decide +kernel
theorem dX12_heavyOf_16 : decode cX12_heavyOf 16 = .ok (.iload_n 3, 1) := by decide +kernel
theorem dX12_heavyOf_17 : decode cX12_heavyOf 17 = .ok (.invokestatic 70, 3) := by decide +kernel
theorem dX12_heavyOf_20 : decode cX12_heavyOf 20 = .ok (.ifCond .eq 15, 3) := by decide +kernel
theorem dX12_heavyOf_23 : decode cX12_heavyOf 23 = .ok (.aload_n 0, 1) := by decide +kernel
theorem dX12_heavyOf_24 : decode cX12_heavyOf 24 = .ok (.getfield 7, 3) := by decide +kernel
theorem dX12_heavyOf_27 : decode cX12_heavyOf 27 = .ok (.bipush 30, 2) := by decide +kernel
theorem dX12_heavyOf_29 : decode cX12_heavyOf 29 = .ok (.iload_n 3, 1) := by decide +kernel
theorem dX12_heavyOf_30 : decode cX12_heavyOf 30 = .ok (.iadd, 1) := by decide +kernel
theorem dX12_heavyOf_31 : decode cX12_heavyOf 31 = .ok (.iaload, 1) := by decide +kernel
theorem dX12_heavyOf_32 : decode cX12_heavyOf 32 = .ok (.goto 4, 3) := by decide +kernel
theorem dX12_heavyOf_35 : decode cX12_heavyOf 35 = .ok (.iconst 0, 1) := by decide +kernel
theorem dX12_heavyOf_36 : decode cX12_heavyOf 36 = .ok (.iadd, 1) := by decide +kernel
theorem dX12_heavyOf_37 : decode cX12_heavyOf 37 = .ok (.istore_n 2, 1) := by decide +kernel
theorem dX12_heavyOf_38 : decode cX12_heavyOf 38 = .ok (.iinc 3 1, 3) := by decide +kernel
theorem dX12_heavyOf_41 : decode cX12_heavyOf 41 = .ok (.goto (-37), 3) := by decide +kernel
theorem dX12_heavyOf_44 : decode cX12_heavyOf 44 = .ok (.iload_n 2, 1) := by decide +kernel
theorem dX12_heavyOf_45 : decode cX12_heavyOf 45 = .ok (.ireturn, 1) := by decide +kernel
theorem dX12_worthOf_0 : decode cX12_worthOf 0 = .ok (.iconst 0, 1) := by decide +kernel
theorem dX12_worthOf_1 : decode cX12_worthOf 1 = .ok (.istore_n 2, 1) := by decide +kernel
theorem dX12_worthOf_2 : decode cX12_worthOf 2 = .ok (.iconst 0, 1) := by decide +kernel
theorem dX12_worthOf_3 : decode cX12_worthOf 3 = .ok (.istore_n 3, 1) := by decide +kernel
theorem dX12_worthOf_4 : decode cX12_worthOf 4 = .ok (.iload_n 3, 1) := by decide +kernel
theorem dX12_worthOf_5 : decode cX12_worthOf 5 = .ok (.aload_n 0, 1) := by decide +kernel
theorem dX12_worthOf_6 : decode cX12_worthOf 6 = .ok (.getfield 7, 3) := by decide +kernel
theorem dX12_worthOf_9 : decode cX12_worthOf 9 = .ok (.iconst 0, 1) := by decide +kernel
theorem dX12_worthOf_10 : decode cX12_worthOf 10 = .ok (.iaload, 1) := by decide +kernel
theorem dX12_worthOf_11 : decode cX12_worthOf 11 = .ok (.if_icmp .ge 33, 3) := by decide +kernel
theorem dX12_worthOf_14 : decode cX12_worthOf 14 = .ok (.iload_n 2, 1) := by decide +kernel
theorem dX12_worthOf_15 : decode cX12_worthOf 15 = .ok (.iload_n 1, 1) := by decide +kernel
theorem dX12_worthOf_16 : decode cX12_worthOf 16 = .ok (.iload_n 3, 1) := by decide +kernel
theorem dX12_worthOf_17 : decode cX12_worthOf 17 = .ok (.invokestatic 70, 3) := by decide +kernel
theorem dX12_worthOf_20 : decode cX12_worthOf 20 = .ok (.ifCond .eq 15, 3) := by decide +kernel
theorem dX12_worthOf_23 : decode cX12_worthOf 23 = .ok (.aload_n 0, 1) := by decide +kernel
theorem dX12_worthOf_24 : decode cX12_worthOf 24 = .ok (.getfield 7, 3) := by decide +kernel
theorem dX12_worthOf_27 : decode cX12_worthOf 27 = .ok (.bipush 38, 2) := by decide +kernel
theorem dX12_worthOf_29 : decode cX12_worthOf 29 = .ok (.iload_n 3, 1) := by decide +kernel
theorem dX12_worthOf_30 : decode cX12_worthOf 30 = .ok (.iadd, 1) := by decide +kernel
theorem dX12_worthOf_31 : decode cX12_worthOf 31 = .ok (.iaload, 1) := by decide +kernel
theorem dX12_worthOf_32 : decode cX12_worthOf 32 = .ok (.goto 4, 3) := by decide +kernel
theorem dX12_worthOf_35 : decode cX12_worthOf 35 = .ok (.iconst 0, 1) := by decide +kernel
theorem dX12_worthOf_36 : decode cX12_worthOf 36 = .ok (.iadd, 1) := by decide +kernel
theorem dX12_worthOf_37 : decode cX12_worthOf 37 = .ok (.istore_n 2, 1) := by decide +kernel
theorem dX12_worthOf_38 : decode cX12_worthOf 38 = .ok (.iinc 3 1, 3) := by decide +kernel
theorem dX12_worthOf_41 : decode cX12_worthOf 41 = .ok (.goto (-37), 3) := by decide +kernel
theorem dX12_worthOf_44 : decode cX12_worthOf 44 = .ok (.iload_n 2, 1) := by decide +kernel
theorem dX12_worthOf_45 : decode cX12_worthOf 45 = .ok (.ireturn, 1) := by decide +kernel
theorem dX12_isAlive_0 : decode cX12_isAlive 0 = .ok (.aload_n 0, 1) := by decide +kernel
theorem dX12_isAlive_1 : decode cX12_isAlive 1 = .ok (.iload_n 1, 1) := by decide +kernel
theorem dX12_isAlive_2 : decode cX12_isAlive 2 = .ok (.invokevirtual 160, 3) := by decide +kernel
theorem dX12_isAlive_5 : decode cX12_isAlive 5 = .ok (.aload_n 0, 1) := by decide +kernel
theorem dX12_isAlive_6 : decode cX12_isAlive 6 = .ok (.getfield 7, 3) := by decide +kernel
theorem dX12_isAlive_9 : decode cX12_isAlive 9 = .ok (.iconst 2, 1) := by decide +kernel
theorem dX12_isAlive_10 : decode cX12_isAlive 10 = .ok (.iaload, 1) := by decide +kernel
theorem dX12_isAlive_11 : decode cX12_isAlive 11 = .ok (.iload_n 2, 1) := by decide +kernel
theorem dX12_isAlive_12 : decode cX12_isAlive 12 = .ok (.isub, 1) := by decide +kernel
theorem dX12_isAlive_13 : decode cX12_isAlive 13 = .ok (.if_icmp .gt 7, 3) := by decide +kernel
theorem dX12_isAlive_16 : decode cX12_isAlive 16 = .ok (.iconst 1, 1) := by decide +kernel
theorem dX12_isAlive_17 : decode cX12_isAlive 17 = .ok (.goto 4, 3) := by decide +kernel
theorem dX12_isAlive_20 : decode cX12_isAlive 20 = .ok (.iconst 0, 1) := by decide +kernel
theorem dX12_isAlive_21 : decode cX12_isAlive 21 = .ok (.ireturn, 1) := by decide +kernel
theorem dX12_lives_0 : decode cX12_lives 0 = .ok (.iload_n 1, 1) := by decide +kernel
theorem dX12_lives_1 : decode cX12_lives 1 = .ok (.invokestatic 163, 3) := by decide +kernel
theorem dX12_lives_4 : decode cX12_lives 4 = .ok (.ifCond .ne 8, 3) := by decide +kernel
theorem dX12_lives_7 : decode cX12_lives 7 = .ok (.aload_n 0, 1) := by decide +kernel
theorem dX12_lives_8 : decode cX12_lives 8 = .ok (.invokevirtual 44, 3) := by decide +kernel
theorem dX12_lives_11 : decode cX12_lives 11 = .ok (.ireturn, 1) := by decide +kernel
theorem dX12_lives_12 : decode cX12_lives 12 = .ok (.aload_n 0, 1) := by decide +kernel
theorem dX12_lives_13 : decode cX12_lives 13 = .ok (.aload_n 0, 1) := by decide +kernel
theorem dX12_lives_14 : decode cX12_lives 14 = .ok (.getfield 7, 3) := by decide +kernel
theorem dX12_lives_17 : decode cX12_lives 17 = .ok (.iconst 5, 1) := by decide +kernel
theorem dX12_lives_18 : decode cX12_lives 18 = .ok (.iaload, 1) := by decide +kernel
theorem dX12_lives_19 : decode cX12_lives 19 = .ok (.iload_n 1, 1) := by decide +kernel
theorem dX12_lives_20 : decode cX12_lives 20 = .ok (.invokevirtual 166, 3) := by decide +kernel
theorem dX12_lives_23 : decode cX12_lives 23 = .ok (.ifCond .eq 7, 3) := by decide +kernel
theorem dX12_lives_26 : decode cX12_lives 26 = .ok (.iconst 1, 1) := by decide +kernel
theorem dX12_lives_27 : decode cX12_lives 27 = .ok (.goto 4, 3) := by decide +kernel
theorem dX12_lives_30 : decode cX12_lives 30 = .ok (.iconst 0, 1) := by decide +kernel
theorem dX12_lives_31 : decode cX12_lives 31 = .ok (.ireturn, 1) := by decide +kernel
theorem dX12_now_0 : decode cX12_now 0 = .ok (.iload_n 1, 1) := by decide +kernel
theorem dX12_now_1 : decode cX12_now 1 = .ok (.tableswitch 65 0 3 #[31, 37, 43, 54], 31) := by decide +kernel
theorem dX12_now_32 : decode cX12_now 32 = .ok (.aload_n 0, 1) := by decide +kernel
theorem dX12_now_33 : decode cX12_now 33 = .ok (.iconst (-1), 1) := by decide +kernel
theorem dX12_now_34 : decode cX12_now 34 = .ok (.invokevirtual 169, 3) := by decide +kernel
theorem dX12_now_37 : decode cX12_now 37 = .ok (.ireturn, 1) := by decide +kernel
theorem dX12_now_38 : decode cX12_now 38 = .ok (.aload_n 0, 1) := by decide +kernel
theorem dX12_now_39 : decode cX12_now 39 = .ok (.iconst (-1), 1) := by decide +kernel
theorem dX12_now_40 : decode cX12_now 40 = .ok (.invokevirtual 172, 3) := by decide +kernel
theorem dX12_now_43 : decode cX12_now 43 = .ok (.ireturn, 1) := by decide +kernel
theorem dX12_now_44 : decode cX12_now 44 = .ok (.aload_n 0, 1) := by decide +kernel
theorem dX12_now_45 : decode cX12_now 45 = .ok (.aload_n 0, 1) := by decide +kernel
theorem dX12_now_46 : decode cX12_now 46 = .ok (.getfield 7, 3) := by decide +kernel
theorem dX12_now_49 : decode cX12_now 49 = .ok (.iconst 5, 1) := by decide +kernel
theorem dX12_now_50 : decode cX12_now 50 = .ok (.iaload, 1) := by decide +kernel
theorem dX12_now_51 : decode cX12_now 51 = .ok (.invokevirtual 160, 3) := by decide +kernel
theorem dX12_now_54 : decode cX12_now 54 = .ok (.ireturn, 1) := by decide +kernel
theorem dX12_now_55 : decode cX12_now 55 = .ok (.aload_n 0, 1) := by decide +kernel
theorem dX12_now_56 : decode cX12_now 56 = .ok (.aload_n 0, 1) := by decide +kernel
theorem dX12_now_57 : decode cX12_now 57 = .ok (.getfield 7, 3) := by decide +kernel
theorem dX12_now_60 : decode cX12_now 60 = .ok (.iconst 5, 1) := by decide +kernel
theorem dX12_now_61 : decode cX12_now 61 = .ok (.iaload, 1) := by decide +kernel
theorem dX12_now_62 : decode cX12_now 62 = .ok (.invokevirtual 175, 3) := by decide +kernel
theorem dX12_now_65 : decode cX12_now 65 = .ok (.ireturn, 1) := by decide +kernel
theorem dX12_now_66 : decode cX12_now 66 = .ok (.aload_n 0, 1) := by decide +kernel
theorem dX12_now_67 : decode cX12_now 67 = .ok (.invokevirtual 44, 3) := by decide +kernel
theorem dX12_now_70 : decode cX12_now 70 = .ok (.ireturn, 1) := by decide +kernel
theorem dX12_tellsPart_0 : decode cX12_tellsPart 0 = .ok (.lload_n 1, 1) := by decide +kernel
theorem dX12_tellsPart_1 : decode cX12_tellsPart 1 = .ok (.lconst 0, 1) := by decide +kernel
theorem dX12_tellsPart_2 : decode cX12_tellsPart 2 = .ok (.lcmp, 1) := by decide +kernel
theorem dX12_tellsPart_3 : decode cX12_tellsPart 3 = .ok (.ifCond .ge 8, 3) := by decide +kernel
theorem dX12_tellsPart_6 : decode cX12_tellsPart 6 = .ok (.lload_n 1, 1) := by decide +kernel
theorem dX12_tellsPart_7 : decode cX12_tellsPart 7 = .ok (.lneg, 1) := by decide +kernel
theorem dX12_tellsPart_8 : decode cX12_tellsPart 8 = .ok (.goto 4, 3) := by decide +kernel
theorem dX12_tellsPart_11 : decode cX12_tellsPart 11 = .ok (.lload_n 1, 1) := by decide +kernel
theorem dX12_tellsPart_12 : decode cX12_tellsPart 12 = .ok (.lstore 5, 2) := by decide +kernel
theorem dX12_tellsPart_14 : decode cX12_tellsPart 14 = .ok (.lload_n 3, 1) := by decide +kernel
theorem dX12_tellsPart_15 : decode cX12_tellsPart 15 = .ok (.lstore 7, 2) := by decide +kernel
theorem dX12_tellsPart_17 : decode cX12_tellsPart 17 = .ok (.lload 7, 2) := by decide +kernel
theorem dX12_tellsPart_19 : decode cX12_tellsPart 19 = .ok (.lconst 0, 1) := by decide +kernel
theorem dX12_tellsPart_20 : decode cX12_tellsPart 20 = .ok (.lcmp, 1) := by decide +kernel
theorem dX12_tellsPart_21 : decode cX12_tellsPart 21 = .ok (.ifCond .eq 21, 3) := by decide +kernel
theorem dX12_tellsPart_24 : decode cX12_tellsPart 24 = .ok (.lload 5, 2) := by decide +kernel
theorem dX12_tellsPart_26 : decode cX12_tellsPart 26 = .ok (.lload 7, 2) := by decide +kernel
theorem dX12_tellsPart_28 : decode cX12_tellsPart 28 = .ok (.lrem, 1) := by decide +kernel
theorem dX12_tellsPart_29 : decode cX12_tellsPart 29 = .ok (.lstore 9, 2) := by decide +kernel
theorem dX12_tellsPart_31 : decode cX12_tellsPart 31 = .ok (.lload 7, 2) := by decide +kernel
theorem dX12_tellsPart_33 : decode cX12_tellsPart 33 = .ok (.lstore 5, 2) := by decide +kernel
theorem dX12_tellsPart_35 : decode cX12_tellsPart 35 = .ok (.lload 9, 2) := by decide +kernel
theorem dX12_tellsPart_37 : decode cX12_tellsPart 37 = .ok (.lstore 7, 2) := by decide +kernel
theorem dX12_tellsPart_39 : decode cX12_tellsPart 39 = .ok (.goto (-22), 3) := by decide +kernel
theorem dX12_tellsPart_42 : decode cX12_tellsPart 42 = .ok (.aload_n 0, 1) := by decide +kernel
theorem dX12_tellsPart_43 : decode cX12_tellsPart 43 = .ok (.lload_n 1, 1) := by decide +kernel
theorem dX12_tellsPart_44 : decode cX12_tellsPart 44 = .ok (.lload 5, 2) := by decide +kernel
theorem dX12_tellsPart_46 : decode cX12_tellsPart 46 = .ok (.ldiv, 1) := by decide +kernel
theorem dX12_tellsPart_47 : decode cX12_tellsPart 47 = .ok (.putfield 178, 3) := by decide +kernel
theorem dX12_tellsPart_50 : decode cX12_tellsPart 50 = .ok (.aload_n 0, 1) := by decide +kernel
theorem dX12_tellsPart_51 : decode cX12_tellsPart 51 = .ok (.lload_n 3, 1) := by decide +kernel
theorem dX12_tellsPart_52 : decode cX12_tellsPart 52 = .ok (.lload 5, 2) := by decide +kernel
theorem dX12_tellsPart_54 : decode cX12_tellsPart 54 = .ok (.ldiv, 1) := by decide +kernel
theorem dX12_tellsPart_55 : decode cX12_tellsPart 55 = .ok (.putfield 23, 3) := by decide +kernel
theorem dX12_tellsPart_58 : decode cX12_tellsPart 58 = .ok (.iconst 1, 1) := by decide +kernel
theorem dX12_tellsPart_59 : decode cX12_tellsPart 59 = .ok (.ireturn, 1) := by decide +kernel
theorem dX12_whole_0 : decode cX12_whole 0 = .ok (.aload_n 0, 1) := by decide +kernel
theorem dX12_whole_1 : decode cX12_whole 1 = .ok (.iconst (-1), 1) := by decide +kernel
theorem dX12_whole_2 : decode cX12_whole 2 = .ok (.invokevirtual 172, 3) := by decide +kernel
theorem dX12_whole_5 : decode cX12_whole 5 = .ok (.istore_n 1, 1) := by decide +kernel
theorem dX12_whole_6 : decode cX12_whole 6 = .ok (.iload_n 1, 1) := by decide +kernel
theorem dX12_whole_7 : decode cX12_whole 7 = .ok (.ifCond .ne 7, 3) := by decide +kernel
theorem dX12_whole_10 : decode cX12_whole 10 = .ok (.iconst 1, 1) := by decide +kernel
theorem dX12_whole_11 : decode cX12_whole 11 = .ok (.goto 4, 3) := by decide +kernel
theorem dX12_whole_14 : decode cX12_whole 14 = .ok (.iload_n 1, 1) := by decide +kernel
theorem dX12_whole_15 : decode cX12_whole 15 = .ok (.ireturn, 1) := by decide +kernel
theorem dX12_share_0 : decode cX12_share 0 = .ok (.iload_n 1, 1) := by decide +kernel
theorem dX12_share_1 : decode cX12_share 1 = .ok (.i2l, 1) := by decide +kernel
theorem dX12_share_2 : decode cX12_share 2 = .ok (.lconst 0, 1) := by decide +kernel
theorem dX12_share_3 : decode cX12_share 3 = .ok (.ldc2_w 181, 3) := by decide +kernel
theorem dX12_share_6 : decode cX12_share 6 = .ok (.invokestatic 34, 3) := by decide +kernel
theorem dX12_share_9 : decode cX12_share 9 = .ok (.ifCond .ne 8, 3) := by decide +kernel
theorem dX12_share_12 : decode cX12_share 12 = .ok (.aload_n 0, 1) := by decide +kernel
theorem dX12_share_13 : decode cX12_share 13 = .ok (.invokevirtual 44, 3) := by decide +kernel
theorem dX12_share_16 : decode cX12_share 16 = .ok (.ireturn, 1) := by decide +kernel
theorem dX12_share_17 : decode cX12_share 17 = .ok (.aload_n 0, 1) := by decide +kernel
theorem dX12_share_18 : decode cX12_share 18 = .ok (.aload_n 0, 1) := by decide +kernel
theorem dX12_share_19 : decode cX12_share 19 = .ok (.iconst (-1), 1) := by decide +kernel
theorem dX12_share_20 : decode cX12_share 20 = .ok (.invokevirtual 169, 3) := by decide +kernel
theorem dX12_share_23 : decode cX12_share 23 = .ok (.i2l, 1) := by decide +kernel
theorem dX12_share_24 : decode cX12_share 24 = .ok (.aload_n 0, 1) := by decide +kernel
theorem dX12_share_25 : decode cX12_share 25 = .ok (.iload_n 1, 1) := by decide +kernel
theorem dX12_share_26 : decode cX12_share 26 = .ok (.invokevirtual 172, 3) := by decide +kernel
theorem dX12_share_29 : decode cX12_share 29 = .ok (.i2l, 1) := by decide +kernel
theorem dX12_share_30 : decode cX12_share 30 = .ok (.lmul, 1) := by decide +kernel
theorem dX12_share_31 : decode cX12_share 31 = .ok (.aload_n 0, 1) := by decide +kernel
theorem dX12_share_32 : decode cX12_share 32 = .ok (.invokevirtual 183, 3) := by decide +kernel
theorem dX12_share_35 : decode cX12_share 35 = .ok (.i2l, 1) := by decide +kernel
theorem dX12_share_36 : decode cX12_share 36 = .ok (.invokevirtual 186, 3) := by decide +kernel
theorem dX12_share_39 : decode cX12_share 39 = .ok (.ireturn, 1) := by decide +kernel
theorem dX12_netOf_0 : decode cX12_netOf 0 = .ok (.aload_n 0, 1) := by decide +kernel
theorem dX12_netOf_1 : decode cX12_netOf 1 = .ok (.iconst (-1), 1) := by decide +kernel
theorem dX12_netOf_2 : decode cX12_netOf 2 = .ok (.invokevirtual 169, 3) := by decide +kernel
theorem dX12_netOf_5 : decode cX12_netOf 5 = .ok (.i2l, 1) := by decide +kernel
theorem dX12_netOf_6 : decode cX12_netOf 6 = .ok (.aload_n 0, 1) := by decide +kernel
theorem dX12_netOf_7 : decode cX12_netOf 7 = .ok (.iload_n 1, 1) := by decide +kernel
theorem dX12_netOf_8 : decode cX12_netOf 8 = .ok (.invokevirtual 172, 3) := by decide +kernel
theorem dX12_netOf_11 : decode cX12_netOf 11 = .ok (.i2l, 1) := by decide +kernel
theorem dX12_netOf_12 : decode cX12_netOf 12 = .ok (.lmul, 1) := by decide +kernel
theorem dX12_netOf_13 : decode cX12_netOf 13 = .ok (.aload_n 0, 1) := by decide +kernel
theorem dX12_netOf_14 : decode cX12_netOf 14 = .ok (.iload_n 1, 1) := by decide +kernel
theorem dX12_netOf_15 : decode cX12_netOf 15 = .ok (.invokevirtual 169, 3) := by decide +kernel
theorem dX12_netOf_18 : decode cX12_netOf 18 = .ok (.i2l, 1) := by decide +kernel
theorem dX12_netOf_19 : decode cX12_netOf 19 = .ok (.aload_n 0, 1) := by decide +kernel
theorem dX12_netOf_20 : decode cX12_netOf 20 = .ok (.invokevirtual 183, 3) := by decide +kernel
theorem dX12_netOf_23 : decode cX12_netOf 23 = .ok (.i2l, 1) := by decide +kernel
theorem dX12_netOf_24 : decode cX12_netOf 24 = .ok (.lmul, 1) := by decide +kernel
theorem dX12_netOf_25 : decode cX12_netOf 25 = .ok (.lsub, 1) := by decide +kernel
theorem dX12_netOf_26 : decode cX12_netOf 26 = .ok (.lreturn, 1) := by decide +kernel
theorem dX12_net_0 : decode cX12_net 0 = .ok (.iload_n 1, 1) := by decide +kernel
theorem dX12_net_1 : decode cX12_net 1 = .ok (.invokestatic 50, 3) := by decide +kernel
theorem dX12_net_4 : decode cX12_net 4 = .ok (.ifCond .eq 20, 3) := by decide +kernel
theorem dX12_net_7 : decode cX12_net 7 = .ok (.aload_n 0, 1) := by decide +kernel
theorem dX12_net_8 : decode cX12_net 8 = .ok (.aload_n 0, 1) := by decide +kernel
theorem dX12_net_9 : decode cX12_net 9 = .ok (.iload_n 1, 1) := by decide +kernel
theorem dX12_net_10 : decode cX12_net 10 = .ok (.invokevirtual 190, 3) := by decide +kernel
theorem dX12_net_13 : decode cX12_net 13 = .ok (.aload_n 0, 1) := by decide +kernel
theorem dX12_net_14 : decode cX12_net 14 = .ok (.invokevirtual 183, 3) := by decide +kernel
theorem dX12_net_17 : decode cX12_net 17 = .ok (.i2l, 1) := by decide +kernel
theorem dX12_net_18 : decode cX12_net 18 = .ok (.invokevirtual 186, 3) := by decide +kernel
theorem dX12_net_21 : decode cX12_net 21 = .ok (.goto 7, 3) := by decide +kernel
theorem dX12_net_24 : decode cX12_net 24 = .ok (.aload_n 0, 1) := by decide +kernel
theorem dX12_net_25 : decode cX12_net 25 = .ok (.invokevirtual 44, 3) := by decide +kernel
theorem dX12_net_28 : decode cX12_net 28 = .ok (.ireturn, 1) := by decide +kernel
theorem dX12_canGo_0 : decode cX12_canGo 0 = .ok (.iconst 1, 1) := by decide +kernel
theorem dX12_canGo_1 : decode cX12_canGo 1 = .ok (.istore 5, 2) := by decide +kernel
theorem dX12_canGo_3 : decode cX12_canGo 3 = .ok (.iconst 0, 1) := by decide +kernel
theorem dX12_canGo_4 : decode cX12_canGo 4 = .ok (.istore 6, 2) := by decide +kernel
theorem dX12_canGo_6 : decode cX12_canGo 6 = .ok (.iload 6, 2) := by decide +kernel
theorem dX12_canGo_8 : decode cX12_canGo 8 = .ok (.aload_n 0, 1) := by decide +kernel
theorem dX12_canGo_9 : decode cX12_canGo 9 = .ok (.getfield 7, 3) := by decide +kernel
theorem dX12_canGo_12 : decode cX12_canGo 12 = .ok (.iconst 0, 1) := by decide +kernel
theorem dX12_canGo_13 : decode cX12_canGo 13 = .ok (.iaload, 1) := by decide +kernel
theorem dX12_canGo_14 : decode cX12_canGo 14 = .ok (.if_icmp .ge 53, 3) := by decide +kernel
theorem dX12_canGo_17 : decode cX12_canGo 17 = .ok (.iload 5, 2) := by decide +kernel
theorem dX12_canGo_19 : decode cX12_canGo 19 = .ok (.ifCond .eq 39, 3) := by decide +kernel
theorem dX12_canGo_22 : decode cX12_canGo 22 = .ok (.iload_n 2, 1) := by decide +kernel
theorem dX12_canGo_23 : decode cX12_canGo 23 = .ok (.iload 6, 2) := by decide +kernel
theorem dX12_canGo_25 : decode cX12_canGo 25 = .ok (.invokestatic 70, 3) := by decide +kernel
theorem dX12_canGo_28 : decode cX12_canGo 28 = .ok (.ifCond .eq 26, 3) := by decide +kernel
theorem dX12_canGo_31 : decode cX12_canGo 31 = .ok (.aload_n 0, 1) := by decide +kernel
theorem dX12_canGo_32 : decode cX12_canGo 32 = .ok (.iconst 0, 1) := by decide +kernel
theorem dX12_canGo_33 : decode cX12_canGo 33 = .ok (.iload_n 1, 1) := by decide +kernel
theorem dX12_canGo_34 : decode cX12_canGo 34 = .ok (.iload_n 2, 1) := by decide +kernel
theorem dX12_canGo_35 : decode cX12_canGo 35 = .ok (.iconst (-1), 1) := by decide +kernel
theorem dX12_canGo_36 : decode cX12_canGo 36 = .ok (.ixor, 1) := by decide +kernel
theorem dX12_canGo_37 : decode cX12_canGo 37 = .ok (.iand, 1) := by decide +kernel
theorem dX12_canGo_38 : decode cX12_canGo 38 = .ok (.iconst 1, 1) := by decide +kernel
theorem dX12_canGo_39 : decode cX12_canGo 39 = .ok (.iload 6, 2) := by decide +kernel
theorem dX12_canGo_41 : decode cX12_canGo 41 = .ok (.ishl, 1) := by decide +kernel
theorem dX12_canGo_42 : decode cX12_canGo 42 = .ok (.ior, 1) := by decide +kernel
theorem dX12_canGo_43 : decode cX12_canGo 43 = .ok (.iload 6, 2) := by decide +kernel
theorem dX12_canGo_45 : decode cX12_canGo 45 = .ok (.iload_n 3, 1) := by decide +kernel
theorem dX12_canGo_46 : decode cX12_canGo 46 = .ok (.iload 4, 2) := by decide +kernel
theorem dX12_canGo_48 : decode cX12_canGo 48 = .ok (.invokevirtual 74, 3) := by decide +kernel
theorem dX12_canGo_51 : decode cX12_canGo 51 = .ok (.ifCond .eq 7, 3) := by decide +kernel
theorem dX12_canGo_54 : decode cX12_canGo 54 = .ok (.iconst 1, 1) := by decide +kernel
theorem dX12_canGo_55 : decode cX12_canGo 55 = .ok (.goto 4, 3) := by decide +kernel
theorem dX12_canGo_58 : decode cX12_canGo 58 = .ok (.iconst 0, 1) := by decide +kernel
theorem dX12_canGo_59 : decode cX12_canGo 59 = .ok (.istore 5, 2) := by decide +kernel
theorem dX12_canGo_61 : decode cX12_canGo 61 = .ok (.iinc 6 1, 3) := by decide +kernel
theorem dX12_canGo_64 : decode cX12_canGo 64 = .ok (.goto (-58), 3) := by decide +kernel
theorem dX12_canGo_67 : decode cX12_canGo 67 = .ok (.iload 5, 2) := by decide +kernel
theorem dX12_canGo_69 : decode cX12_canGo 69 = .ok (.ireturn, 1) := by decide +kernel
theorem dX12_findLeast_0 : decode cX12_findLeast 0 = .ok (.aload_n 0, 1) := by decide +kernel
theorem dX12_findLeast_1 : decode cX12_findLeast 1 = .ok (.iconst (-1), 1) := by decide +kernel
theorem dX12_findLeast_2 : decode cX12_findLeast 2 = .ok (.putfield 194, 3) := by decide +kernel
theorem dX12_findLeast_5 : decode cX12_findLeast 5 = .ok (.aload_n 0, 1) := by decide +kernel
theorem dX12_findLeast_6 : decode cX12_findLeast 6 = .ok (.ldc 197, 2) := by decide +kernel
theorem dX12_findLeast_8 : decode cX12_findLeast 8 = .ok (.putfield 198, 3) := by decide +kernel
theorem dX12_findLeast_11 : decode cX12_findLeast 11 = .ok (.iconst 0, 1) := by decide +kernel
theorem dX12_findLeast_12 : decode cX12_findLeast 12 = .ok (.istore 5, 2) := by decide +kernel
theorem dX12_findLeast_14 : decode cX12_findLeast 14 = .ok (.iload 5, 2) := by decide +kernel
theorem dX12_findLeast_16 : decode cX12_findLeast 16 = .ok (.sipush 256, 3) := by decide +kernel
theorem dX12_findLeast_19 : decode cX12_findLeast 19 = .ok (.if_icmp .ge 129, 3) := by decide +kernel
theorem dX12_findLeast_22 : decode cX12_findLeast 22 = .ok (.iload 5, 2) := by decide +kernel
theorem dX12_findLeast_24 : decode cX12_findLeast 24 = .ok (.iload_n 1, 1) := by decide +kernel
theorem dX12_findLeast_25 : decode cX12_findLeast 25 = .ok (.iconst (-1), 1) := by decide +kernel
theorem dX12_findLeast_26 : decode cX12_findLeast 26 = .ok (.ixor, 1) := by decide +kernel
theorem dX12_findLeast_27 : decode cX12_findLeast 27 = .ok (.iand, 1) := by decide +kernel
theorem dX12_findLeast_28 : decode cX12_findLeast 28 = .ok (.ifCond .ne 114, 3) := by decide +kernel
theorem dX12_findLeast_31 : decode cX12_findLeast 31 = .ok (.aload_n 0, 1) := by decide +kernel
theorem dX12_findLeast_32 : decode cX12_findLeast 32 = .ok (.iload_n 1, 1) := by decide +kernel
theorem dX12_findLeast_33 : decode cX12_findLeast 33 = .ok (.iload 5, 2) := by decide +kernel
theorem dX12_findLeast_35 : decode cX12_findLeast 35 = .ok (.iconst (-1), 1) := by decide +kernel
theorem dX12_findLeast_36 : decode cX12_findLeast 36 = .ok (.ixor, 1) := by decide +kernel
theorem dX12_findLeast_37 : decode cX12_findLeast 37 = .ok (.iand, 1) := by decide +kernel
theorem dX12_findLeast_38 : decode cX12_findLeast 38 = .ok (.iload_n 2, 1) := by decide +kernel
theorem dX12_findLeast_39 : decode cX12_findLeast 39 = .ok (.invokevirtual 166, 3) := by decide +kernel
theorem dX12_findLeast_42 : decode cX12_findLeast 42 = .ok (.ifCond .eq 100, 3) := by decide +kernel
theorem dX12_findLeast_45 : decode cX12_findLeast 45 = .ok (.aload_n 0, 1) := by decide +kernel
theorem dX12_findLeast_46 : decode cX12_findLeast 46 = .ok (.iload_n 1, 1) := by decide +kernel
theorem dX12_findLeast_47 : decode cX12_findLeast 47 = .ok (.iload 5, 2) := by decide +kernel
theorem dX12_findLeast_49 : decode cX12_findLeast 49 = .ok (.iload_n 3, 1) := by decide +kernel
theorem dX12_findLeast_50 : decode cX12_findLeast 50 = .ok (.iload 4, 2) := by decide +kernel
theorem dX12_findLeast_52 : decode cX12_findLeast 52 = .ok (.invokevirtual 201, 3) := by decide +kernel
theorem dX12_findLeast_55 : decode cX12_findLeast 55 = .ok (.ifCond .eq 87, 3) := by decide +kernel
theorem dX12_findLeast_58 : decode cX12_findLeast 58 = .ok (.aload_n 0, 1) := by decide +kernel
theorem dX12_findLeast_59 : decode cX12_findLeast 59 = .ok (.iload 5, 2) := by decide +kernel
theorem dX12_findLeast_61 : decode cX12_findLeast 61 = .ok (.invokevirtual 175, 3) := by decide +kernel
theorem dX12_findLeast_64 : decode cX12_findLeast 64 = .ok (.istore 6, 2) := by decide +kernel
theorem dX12_findLeast_66 : decode cX12_findLeast 66 = .ok (.iload 6, 2) := by decide +kernel
theorem dX12_findLeast_68 : decode cX12_findLeast 68 = .ok (.aload_n 0, 1) := by decide +kernel
theorem dX12_findLeast_69 : decode cX12_findLeast 69 = .ok (.getfield 198, 3) := by decide +kernel
theorem dX12_findLeast_72 : decode cX12_findLeast 72 = .ok (.if_icmp .lt 27, 3) := by decide +kernel
theorem dX12_findLeast_75 : decode cX12_findLeast 75 = .ok (.iload 6, 2) := by decide +kernel
theorem dX12_findLeast_77 : decode cX12_findLeast 77 = .ok (.aload_n 0, 1) := by decide +kernel
theorem dX12_findLeast_78 : decode cX12_findLeast 78 = .ok (.getfield 198, 3) := by decide +kernel
theorem dX12_findLeast_81 : decode cX12_findLeast 81 = .ok (.if_icmp .ne 22, 3) := by decide +kernel
theorem dX12_findLeast_84 : decode cX12_findLeast 84 = .ok (.iload 5, 2) := by decide +kernel
theorem dX12_findLeast_86 : decode cX12_findLeast 86 = .ok (.invokestatic 155, 3) := by decide +kernel
theorem dX12_findLeast_89 : decode cX12_findLeast 89 = .ok (.aload_n 0, 1) := by decide +kernel
theorem dX12_findLeast_90 : decode cX12_findLeast 90 = .ok (.getfield 194, 3) := by decide +kernel
theorem dX12_findLeast_93 : decode cX12_findLeast 93 = .ok (.invokestatic 155, 3) := by decide +kernel
theorem dX12_findLeast_96 : decode cX12_findLeast 96 = .ok (.if_icmp .ge 7, 3) := by decide +kernel
theorem dX12_findLeast_99 : decode cX12_findLeast 99 = .ok (.iconst 1, 1) := by decide +kernel
theorem dX12_findLeast_100 : decode cX12_findLeast 100 = .ok (.goto 4, 3) := by decide +kernel
theorem dX12_findLeast_103 : decode cX12_findLeast 103 = .ok (.iconst 0, 1) := by decide +kernel
theorem dX12_findLeast_104 : decode cX12_findLeast 104 = .ok (.istore 7, 2) := by decide +kernel
theorem dX12_findLeast_106 : decode cX12_findLeast 106 = .ok (.aload_n 0, 1) := by decide +kernel
theorem dX12_findLeast_107 : decode cX12_findLeast 107 = .ok (.iload 7, 2) := by decide +kernel
theorem dX12_findLeast_109 : decode cX12_findLeast 109 = .ok (.ifCond .eq 8, 3) := by decide +kernel
theorem dX12_findLeast_112 : decode cX12_findLeast 112 = .ok (.iload 5, 2) := by decide +kernel
theorem dX12_findLeast_114 : decode cX12_findLeast 114 = .ok (.goto 7, 3) := by decide +kernel
theorem dX12_findLeast_117 : decode cX12_findLeast 117 = .ok (.aload_n 0, 1) := by decide +kernel
theorem dX12_findLeast_118 : decode cX12_findLeast 118 = .ok (.getfield 194, 3) := by decide +kernel
theorem dX12_findLeast_121 : decode cX12_findLeast 121 = .ok (.putfield 194, 3) := by decide +kernel
theorem dX12_findLeast_124 : decode cX12_findLeast 124 = .ok (.aload_n 0, 1) := by decide +kernel
theorem dX12_findLeast_125 : decode cX12_findLeast 125 = .ok (.iload 7, 2) := by decide +kernel
theorem dX12_findLeast_127 : decode cX12_findLeast 127 = .ok (.ifCond .eq 8, 3) := by decide +kernel
theorem dX12_findLeast_130 : decode cX12_findLeast 130 = .ok (.iload 6, 2) := by decide +kernel
theorem dX12_findLeast_132 : decode cX12_findLeast 132 = .ok (.goto 7, 3) := by decide +kernel
theorem dX12_findLeast_135 : decode cX12_findLeast 135 = .ok (.aload_n 0, 1) := by decide +kernel
theorem dX12_findLeast_136 : decode cX12_findLeast 136 = .ok (.getfield 198, 3) := by decide +kernel
theorem dX12_findLeast_139 : decode cX12_findLeast 139 = .ok (.putfield 198, 3) := by decide +kernel
theorem dX12_findLeast_142 : decode cX12_findLeast 142 = .ok (.iinc 5 1, 3) := by decide +kernel
theorem dX12_findLeast_145 : decode cX12_findLeast 145 = .ok (.goto (-131), 3) := by decide +kernel
theorem dX12_findLeast_148 : decode cX12_findLeast 148 = .ok (.return_, 1) := by decide +kernel
theorem dX12_least_0 : decode cX12_least 0 = .ok (.iload_n 1, 1) := by decide +kernel
theorem dX12_least_1 : decode cX12_least 1 = .ok (.invokestatic 163, 3) := by decide +kernel
theorem dX12_least_4 : decode cX12_least 4 = .ok (.ifCond .eq 9, 3) := by decide +kernel
theorem dX12_least_7 : decode cX12_least 7 = .ok (.iload_n 2, 1) := by decide +kernel
theorem dX12_least_8 : decode cX12_least 8 = .ok (.bipush (-2), 2) := by decide +kernel
theorem dX12_least_10 : decode cX12_least 10 = .ok (.if_icmp .ge 10, 3) := by decide +kernel
theorem dX12_least_13 : decode cX12_least 13 = .ok (.aload_n 0, 1) := by decide +kernel
theorem dX12_least_14 : decode cX12_least 14 = .ok (.bipush (-10), 2) := by decide +kernel
theorem dX12_least_16 : decode cX12_least 16 = .ok (.invokevirtual 205, 3) := by decide +kernel
theorem dX12_least_19 : decode cX12_least 19 = .ok (.ireturn, 1) := by decide +kernel
theorem dX12_least_20 : decode cX12_least 20 = .ok (.aload_n 0, 1) := by decide +kernel
theorem dX12_least_21 : decode cX12_least 21 = .ok (.aload_n 0, 1) := by decide +kernel
theorem dX12_least_22 : decode cX12_least 22 = .ok (.getfield 7, 3) := by decide +kernel
theorem dX12_least_25 : decode cX12_least 25 = .ok (.iconst 5, 1) := by decide +kernel
theorem dX12_least_26 : decode cX12_least 26 = .ok (.iaload, 1) := by decide +kernel
theorem dX12_least_27 : decode cX12_least 27 = .ok (.iload_n 1, 1) := by decide +kernel
theorem dX12_least_28 : decode cX12_least 28 = .ok (.iconst (-1), 1) := by decide +kernel
theorem dX12_least_29 : decode cX12_least 29 = .ok (.iconst 0, 1) := by decide +kernel
theorem dX12_least_30 : decode cX12_least 30 = .ok (.invokevirtual 208, 3) := by decide +kernel
theorem dX12_least_33 : decode cX12_least 33 = .ok (.aload_n 0, 1) := by decide +kernel
theorem dX12_least_34 : decode cX12_least 34 = .ok (.getfield 194, 3) := by decide +kernel
theorem dX12_least_37 : decode cX12_least 37 = .ok (.iconst (-1), 1) := by decide +kernel
theorem dX12_least_38 : decode cX12_least 38 = .ok (.if_icmp .ne 5, 3) := by decide +kernel
theorem dX12_least_41 : decode cX12_least 41 = .ok (.iconst (-1), 1) := by decide +kernel
theorem dX12_least_42 : decode cX12_least 42 = .ok (.ireturn, 1) := by decide +kernel
theorem dX12_least_43 : decode cX12_least 43 = .ok (.iload_n 2, 1) := by decide +kernel
theorem dX12_least_44 : decode cX12_least 44 = .ok (.ifCond .ge 21, 3) := by decide +kernel
theorem dX12_least_47 : decode cX12_least 47 = .ok (.iload_n 2, 1) := by decide +kernel
theorem dX12_least_48 : decode cX12_least 48 = .ok (.bipush (-2), 2) := by decide +kernel
theorem dX12_least_50 : decode cX12_least 50 = .ok (.if_icmp .ne 10, 3) := by decide +kernel
theorem dX12_least_53 : decode cX12_least 53 = .ok (.aload_n 0, 1) := by decide +kernel
theorem dX12_least_54 : decode cX12_least 54 = .ok (.getfield 194, 3) := by decide +kernel
theorem dX12_least_57 : decode cX12_least 57 = .ok (.goto 7, 3) := by decide +kernel
theorem dX12_least_60 : decode cX12_least 60 = .ok (.aload_n 0, 1) := by decide +kernel
theorem dX12_least_61 : decode cX12_least 61 = .ok (.getfield 198, 3) := by decide +kernel
theorem dX12_least_64 : decode cX12_least 64 = .ok (.ireturn, 1) := by decide +kernel
theorem dX12_least_65 : decode cX12_least 65 = .ok (.iload_n 2, 1) := by decide +kernel
theorem dX12_least_66 : decode cX12_least 66 = .ok (.aload_n 0, 1) := by decide +kernel
theorem dX12_least_67 : decode cX12_least 67 = .ok (.getfield 194, 3) := by decide +kernel
theorem dX12_least_70 : decode cX12_least 70 = .ok (.invokestatic 155, 3) := by decide +kernel
theorem dX12_least_73 : decode cX12_least 73 = .ok (.if_icmp .lt 6, 3) := by decide +kernel
theorem dX12_least_76 : decode cX12_least 76 = .ok (.bipush (-5), 2) := by decide +kernel
theorem dX12_least_78 : decode cX12_least 78 = .ok (.ireturn, 1) := by decide +kernel
theorem dX12_least_79 : decode cX12_least 79 = .ok (.aload_n 0, 1) := by decide +kernel
theorem dX12_least_80 : decode cX12_least 80 = .ok (.getfield 7, 3) := by decide +kernel
theorem dX12_least_83 : decode cX12_least 83 = .ok (.iconst 5, 1) := by decide +kernel
theorem dX12_least_84 : decode cX12_least 84 = .ok (.iaload, 1) := by decide +kernel
theorem dX12_least_85 : decode cX12_least 85 = .ok (.istore_n 3, 1) := by decide +kernel
theorem dX12_least_86 : decode cX12_least 86 = .ok (.aload_n 0, 1) := by decide +kernel
theorem dX12_least_87 : decode cX12_least 87 = .ok (.getfield 194, 3) := by decide +kernel
theorem dX12_least_90 : decode cX12_least 90 = .ok (.istore 4, 2) := by decide +kernel
theorem dX12_least_92 : decode cX12_least 92 = .ok (.iconst (-1), 1) := by decide +kernel
theorem dX12_least_93 : decode cX12_least 93 = .ok (.istore 5, 2) := by decide +kernel
theorem dX12_least_95 : decode cX12_least 95 = .ok (.iconst 0, 1) := by decide +kernel
theorem dX12_least_96 : decode cX12_least 96 = .ok (.istore 6, 2) := by decide +kernel
theorem dX12_least_98 : decode cX12_least 98 = .ok (.iload 6, 2) := by decide +kernel
theorem dX12_least_100 : decode cX12_least 100 = .ok (.iload_n 2, 1) := by decide +kernel
theorem dX12_least_101 : decode cX12_least 101 = .ok (.if_icmp .gt 79, 3) := by decide +kernel
theorem dX12_least_104 : decode cX12_least 104 = .ok (.iconst (-1), 1) := by decide +kernel
theorem dX12_least_105 : decode cX12_least 105 = .ok (.istore 5, 2) := by decide +kernel
theorem dX12_least_107 : decode cX12_least 107 = .ok (.bipush 7, 2) := by decide +kernel
theorem dX12_least_109 : decode cX12_least 109 = .ok (.istore 7, 2) := by decide +kernel
theorem dX12_least_111 : decode cX12_least 111 = .ok (.iload 7, 2) := by decide +kernel
theorem dX12_least_113 : decode cX12_least 113 = .ok (.ifCond .lt 41, 3) := by decide +kernel
theorem dX12_least_116 : decode cX12_least 116 = .ok (.iload 4, 2) := by decide +kernel
theorem dX12_least_118 : decode cX12_least 118 = .ok (.iload 7, 2) := by decide +kernel
theorem dX12_least_120 : decode cX12_least 120 = .ok (.invokestatic 70, 3) := by decide +kernel
theorem dX12_least_123 : decode cX12_least 123 = .ok (.ifCond .eq 21, 3) := by decide +kernel
theorem dX12_least_126 : decode cX12_least 126 = .ok (.aload_n 0, 1) := by decide +kernel
theorem dX12_least_127 : decode cX12_least 127 = .ok (.iconst 0, 1) := by decide +kernel
theorem dX12_least_128 : decode cX12_least 128 = .ok (.iload_n 3, 1) := by decide +kernel
theorem dX12_least_129 : decode cX12_least 129 = .ok (.iload 7, 2) := by decide +kernel
theorem dX12_least_131 : decode cX12_least 131 = .ok (.iconst (-1), 1) := by decide +kernel
theorem dX12_least_132 : decode cX12_least 132 = .ok (.iconst 0, 1) := by decide +kernel
theorem dX12_least_133 : decode cX12_least 133 = .ok (.invokevirtual 74, 3) := by decide +kernel
theorem dX12_least_136 : decode cX12_least 136 = .ok (.ifCond .eq 8, 3) := by decide +kernel
theorem dX12_least_139 : decode cX12_least 139 = .ok (.iload 7, 2) := by decide +kernel
theorem dX12_least_141 : decode cX12_least 141 = .ok (.goto 5, 3) := by decide +kernel
theorem dX12_least_144 : decode cX12_least 144 = .ok (.iload 5, 2) := by decide +kernel
theorem dX12_least_146 : decode cX12_least 146 = .ok (.istore 5, 2) := by decide +kernel
theorem dX12_least_148 : decode cX12_least 148 = .ok (.iinc 7 (-1), 3) := by decide +kernel
theorem dX12_least_151 : decode cX12_least 151 = .ok (.goto (-40), 3) := by decide +kernel
theorem dX12_least_154 : decode cX12_least 154 = .ok (.iload 4, 2) := by decide +kernel
theorem dX12_least_156 : decode cX12_least 156 = .ok (.iconst 1, 1) := by decide +kernel
theorem dX12_least_157 : decode cX12_least 157 = .ok (.iload 5, 2) := by decide +kernel
theorem dX12_least_159 : decode cX12_least 159 = .ok (.ishl, 1) := by decide +kernel
theorem dX12_least_160 : decode cX12_least 160 = .ok (.iconst (-1), 1) := by decide +kernel
theorem dX12_least_161 : decode cX12_least 161 = .ok (.ixor, 1) := by decide +kernel
theorem dX12_least_162 : decode cX12_least 162 = .ok (.iand, 1) := by decide +kernel
theorem dX12_least_163 : decode cX12_least 163 = .ok (.istore 4, 2) := by decide +kernel
theorem dX12_least_165 : decode cX12_least 165 = .ok (.iload_n 3, 1) := by decide +kernel
theorem dX12_least_166 : decode cX12_least 166 = .ok (.iconst 1, 1) := by decide +kernel
theorem dX12_least_167 : decode cX12_least 167 = .ok (.iload 5, 2) := by decide +kernel
theorem dX12_least_169 : decode cX12_least 169 = .ok (.ishl, 1) := by decide +kernel
theorem dX12_least_170 : decode cX12_least 170 = .ok (.iconst (-1), 1) := by decide +kernel
theorem dX12_least_171 : decode cX12_least 171 = .ok (.ixor, 1) := by decide +kernel
theorem dX12_least_172 : decode cX12_least 172 = .ok (.iand, 1) := by decide +kernel
theorem dX12_least_173 : decode cX12_least 173 = .ok (.istore_n 3, 1) := by decide +kernel
theorem dX12_least_174 : decode cX12_least 174 = .ok (.iinc 6 1, 3) := by decide +kernel
theorem dX12_least_177 : decode cX12_least 177 = .ok (.goto (-79), 3) := by decide +kernel
theorem dX12_least_180 : decode cX12_least 180 = .ok (.iload 5, 2) := by decide +kernel
theorem dX12_least_182 : decode cX12_least 182 = .ok (.ireturn, 1) := by decide +kernel
theorem dX12_thrownSet_0 : decode cX12_thrownSet 0 = .ok (.iconst 1, 1) := by decide +kernel
theorem dX12_thrownSet_1 : decode cX12_thrownSet 1 = .ok (.aload_n 0, 1) := by decide +kernel
theorem dX12_thrownSet_2 : decode cX12_thrownSet 2 = .ok (.getfield 7, 3) := by decide +kernel
theorem dX12_thrownSet_5 : decode cX12_thrownSet 5 = .ok (.iconst 0, 1) := by decide +kernel
theorem dX12_thrownSet_6 : decode cX12_thrownSet 6 = .ok (.iaload, 1) := by decide +kernel
theorem dX12_thrownSet_7 : decode cX12_thrownSet 7 = .ok (.ishl, 1) := by decide +kernel
theorem dX12_thrownSet_8 : decode cX12_thrownSet 8 = .ok (.iconst 1, 1) := by decide +kernel
theorem dX12_thrownSet_9 : decode cX12_thrownSet 9 = .ok (.isub, 1) := by decide +kernel
theorem dX12_thrownSet_10 : decode cX12_thrownSet 10 = .ok (.aload_n 0, 1) := by decide +kernel
theorem dX12_thrownSet_11 : decode cX12_thrownSet 11 = .ok (.getfield 7, 3) := by decide +kernel
theorem dX12_thrownSet_14 : decode cX12_thrownSet 14 = .ok (.iconst 5, 1) := by decide +kernel
theorem dX12_thrownSet_15 : decode cX12_thrownSet 15 = .ok (.iaload, 1) := by decide +kernel
theorem dX12_thrownSet_16 : decode cX12_thrownSet 16 = .ok (.iconst (-1), 1) := by decide +kernel
theorem dX12_thrownSet_17 : decode cX12_thrownSet 17 = .ok (.ixor, 1) := by decide +kernel
theorem dX12_thrownSet_18 : decode cX12_thrownSet 18 = .ok (.iand, 1) := by decide +kernel
theorem dX12_thrownSet_19 : decode cX12_thrownSet 19 = .ok (.ireturn, 1) := by decide +kernel
theorem dX12_needful_0 : decode cX12_needful 0 = .ok (.iload_n 1, 1) := by decide +kernel
theorem dX12_needful_1 : decode cX12_needful 1 = .ok (.invokestatic 163, 3) := by decide +kernel
theorem dX12_needful_4 : decode cX12_needful 4 = .ok (.ifCond .ne 8, 3) := by decide +kernel
theorem dX12_needful_7 : decode cX12_needful 7 = .ok (.aload_n 0, 1) := by decide +kernel
theorem dX12_needful_8 : decode cX12_needful 8 = .ok (.invokevirtual 44, 3) := by decide +kernel
theorem dX12_needful_11 : decode cX12_needful 11 = .ok (.ireturn, 1) := by decide +kernel
theorem dX12_needful_12 : decode cX12_needful 12 = .ok (.iconst 0, 1) := by decide +kernel
theorem dX12_needful_13 : decode cX12_needful 13 = .ok (.istore_n 2, 1) := by decide +kernel
theorem dX12_needful_14 : decode cX12_needful 14 = .ok (.iconst 0, 1) := by decide +kernel
theorem dX12_needful_15 : decode cX12_needful 15 = .ok (.istore_n 3, 1) := by decide +kernel
theorem dX12_needful_16 : decode cX12_needful 16 = .ok (.iload_n 3, 1) := by decide +kernel
theorem dX12_needful_17 : decode cX12_needful 17 = .ok (.aload_n 0, 1) := by decide +kernel
theorem dX12_needful_18 : decode cX12_needful 18 = .ok (.getfield 7, 3) := by decide +kernel
theorem dX12_needful_21 : decode cX12_needful 21 = .ok (.iconst 0, 1) := by decide +kernel
theorem dX12_needful_22 : decode cX12_needful 22 = .ok (.iaload, 1) := by decide +kernel
theorem dX12_needful_23 : decode cX12_needful 23 = .ok (.if_icmp .ge 48, 3) := by decide +kernel
theorem dX12_needful_26 : decode cX12_needful 26 = .ok (.iload_n 2, 1) := by decide +kernel
theorem dX12_needful_27 : decode cX12_needful 27 = .ok (.aload_n 0, 1) := by decide +kernel
theorem dX12_needful_28 : decode cX12_needful 28 = .ok (.invokevirtual 212, 3) := by decide +kernel
theorem dX12_needful_31 : decode cX12_needful 31 = .ok (.iload_n 3, 1) := by decide +kernel
theorem dX12_needful_32 : decode cX12_needful 32 = .ok (.invokestatic 70, 3) := by decide +kernel
theorem dX12_needful_35 : decode cX12_needful 35 = .ok (.ifCond .eq 27, 3) := by decide +kernel
theorem dX12_needful_38 : decode cX12_needful 38 = .ok (.aload_n 0, 1) := by decide +kernel
theorem dX12_needful_39 : decode cX12_needful 39 = .ok (.aload_n 0, 1) := by decide +kernel
theorem dX12_needful_40 : decode cX12_needful 40 = .ok (.getfield 7, 3) := by decide +kernel
theorem dX12_needful_43 : decode cX12_needful 43 = .ok (.iconst 5, 1) := by decide +kernel
theorem dX12_needful_44 : decode cX12_needful 44 = .ok (.iaload, 1) := by decide +kernel
theorem dX12_needful_45 : decode cX12_needful 45 = .ok (.iconst 1, 1) := by decide +kernel
theorem dX12_needful_46 : decode cX12_needful 46 = .ok (.iload_n 3, 1) := by decide +kernel
theorem dX12_needful_47 : decode cX12_needful 47 = .ok (.ishl, 1) := by decide +kernel
theorem dX12_needful_48 : decode cX12_needful 48 = .ok (.ior, 1) := by decide +kernel
theorem dX12_needful_49 : decode cX12_needful 49 = .ok (.iload_n 1, 1) := by decide +kernel
theorem dX12_needful_50 : decode cX12_needful 50 = .ok (.invokevirtual 166, 3) := by decide +kernel
theorem dX12_needful_53 : decode cX12_needful 53 = .ok (.ifCond .ne 9, 3) := by decide +kernel
theorem dX12_needful_56 : decode cX12_needful 56 = .ok (.iconst 1, 1) := by decide +kernel
theorem dX12_needful_57 : decode cX12_needful 57 = .ok (.iload_n 3, 1) := by decide +kernel
theorem dX12_needful_58 : decode cX12_needful 58 = .ok (.ishl, 1) := by decide +kernel
theorem dX12_needful_59 : decode cX12_needful 59 = .ok (.goto 4, 3) := by decide +kernel
theorem dX12_needful_62 : decode cX12_needful 62 = .ok (.iconst 0, 1) := by decide +kernel
theorem dX12_needful_63 : decode cX12_needful 63 = .ok (.ior, 1) := by decide +kernel
theorem dX12_needful_64 : decode cX12_needful 64 = .ok (.istore_n 2, 1) := by decide +kernel
theorem dX12_needful_65 : decode cX12_needful 65 = .ok (.iinc 3 1, 3) := by decide +kernel
theorem dX12_needful_68 : decode cX12_needful 68 = .ok (.goto (-52), 3) := by decide +kernel
theorem dX12_needful_71 : decode cX12_needful 71 = .ok (.iload_n 2, 1) := by decide +kernel
theorem dX12_needful_72 : decode cX12_needful 72 = .ok (.ireturn, 1) := by decide +kernel
theorem dX12_stow_0 : decode cX12_stow 0 = .ok (.aload_n 0, 1) := by decide +kernel
theorem dX12_stow_1 : decode cX12_stow 1 = .ok (.iload_n 1, 1) := by decide +kernel
theorem dX12_stow_2 : decode cX12_stow 2 = .ok (.invokevirtual 67, 3) := by decide +kernel
theorem dX12_stow_5 : decode cX12_stow 5 = .ok (.ifCond .eq 10, 3) := by decide +kernel
theorem dX12_stow_8 : decode cX12_stow 8 = .ok (.iload_n 2, 1) := by decide +kernel
theorem dX12_stow_9 : decode cX12_stow 9 = .ok (.invokestatic 163, 3) := by decide +kernel
theorem dX12_stow_12 : decode cX12_stow 12 = .ok (.ifCond .ne 8, 3) := by decide +kernel
theorem dX12_stow_15 : decode cX12_stow 15 = .ok (.aload_n 0, 1) := by decide +kernel
theorem dX12_stow_16 : decode cX12_stow 16 = .ok (.invokevirtual 44, 3) := by decide +kernel
theorem dX12_stow_19 : decode cX12_stow 19 = .ok (.ireturn, 1) := by decide +kernel
theorem dX12_stow_20 : decode cX12_stow 20 = .ok (.aload_n 0, 1) := by decide +kernel
theorem dX12_stow_21 : decode cX12_stow 21 = .ok (.getfield 7, 3) := by decide +kernel
theorem dX12_stow_24 : decode cX12_stow 24 = .ok (.iconst 5, 1) := by decide +kernel
theorem dX12_stow_25 : decode cX12_stow 25 = .ok (.iaload, 1) := by decide +kernel
theorem dX12_stow_26 : decode cX12_stow 26 = .ok (.iload_n 1, 1) := by decide +kernel
theorem dX12_stow_27 : decode cX12_stow 27 = .ok (.invokestatic 70, 3) := by decide +kernel
theorem dX12_stow_30 : decode cX12_stow 30 = .ok (.ifCond .ne 8, 3) := by decide +kernel
theorem dX12_stow_33 : decode cX12_stow 33 = .ok (.aload_n 0, 1) := by decide +kernel
theorem dX12_stow_34 : decode cX12_stow 34 = .ok (.invokevirtual 152, 3) := by decide +kernel
theorem dX12_stow_37 : decode cX12_stow 37 = .ok (.ireturn, 1) := by decide +kernel
theorem dX12_stow_38 : decode cX12_stow 38 = .ok (.iconst 0, 1) := by decide +kernel
theorem dX12_stow_39 : decode cX12_stow 39 = .ok (.istore_n 3, 1) := by decide +kernel
theorem dX12_stow_40 : decode cX12_stow 40 = .ok (.iload_n 3, 1) := by decide +kernel
theorem dX12_stow_41 : decode cX12_stow 41 = .ok (.iconst 3, 1) := by decide +kernel
theorem dX12_stow_42 : decode cX12_stow 42 = .ok (.if_icmp .gt 52, 3) := by decide +kernel
theorem dX12_stow_45 : decode cX12_stow 45 = .ok (.aload_n 0, 1) := by decide +kernel
theorem dX12_stow_46 : decode cX12_stow 46 = .ok (.aload_n 0, 1) := by decide +kernel
theorem dX12_stow_47 : decode cX12_stow 47 = .ok (.getfield 7, 3) := by decide +kernel
theorem dX12_stow_50 : decode cX12_stow 50 = .ok (.iconst 5, 1) := by decide +kernel
theorem dX12_stow_51 : decode cX12_stow 51 = .ok (.iaload, 1) := by decide +kernel
theorem dX12_stow_52 : decode cX12_stow 52 = .ok (.iload_n 2, 1) := by decide +kernel
theorem dX12_stow_53 : decode cX12_stow 53 = .ok (.iload_n 3, 1) := by decide +kernel
theorem dX12_stow_54 : decode cX12_stow 54 = .ok (.iconst 3, 1) := by decide +kernel
theorem dX12_stow_55 : decode cX12_stow 55 = .ok (.if_icmp .ne 7, 3) := by decide +kernel
theorem dX12_stow_58 : decode cX12_stow 58 = .ok (.iconst (-1), 1) := by decide +kernel
theorem dX12_stow_59 : decode cX12_stow 59 = .ok (.goto 4, 3) := by decide +kernel
theorem dX12_stow_62 : decode cX12_stow 62 = .ok (.iload_n 1, 1) := by decide +kernel
theorem dX12_stow_63 : decode cX12_stow 63 = .ok (.iload_n 3, 1) := by decide +kernel
theorem dX12_stow_64 : decode cX12_stow 64 = .ok (.invokevirtual 208, 3) := by decide +kernel
theorem dX12_stow_67 : decode cX12_stow 67 = .ok (.aload_n 0, 1) := by decide +kernel
theorem dX12_stow_68 : decode cX12_stow 68 = .ok (.getfield 194, 3) := by decide +kernel
theorem dX12_stow_71 : decode cX12_stow 71 = .ok (.iconst (-1), 1) := by decide +kernel
theorem dX12_stow_72 : decode cX12_stow 72 = .ok (.if_icmp .eq 16, 3) := by decide +kernel
theorem dX12_stow_75 : decode cX12_stow 75 = .ok (.aload_n 0, 1) := by decide +kernel
theorem dX12_stow_76 : decode cX12_stow 76 = .ok (.getfield 194, 3) := by decide +kernel
theorem dX12_stow_79 : decode cX12_stow 79 = .ok (.iload_n 1, 1) := by decide +kernel
theorem dX12_stow_80 : decode cX12_stow 80 = .ok (.invokestatic 70, 3) := by decide +kernel
theorem dX12_stow_83 : decode cX12_stow 83 = .ok (.ifCond .ne 5, 3) := by decide +kernel
theorem dX12_stow_86 : decode cX12_stow 86 = .ok (.iload_n 3, 1) := by decide +kernel
theorem dX12_stow_87 : decode cX12_stow 87 = .ok (.ireturn, 1) := by decide +kernel
theorem dX12_stow_88 : decode cX12_stow 88 = .ok (.iinc 3 1, 3) := by decide +kernel
theorem dX12_stow_91 : decode cX12_stow 91 = .ok (.goto (-51), 3) := by decide +kernel
theorem dX12_stow_94 : decode cX12_stow 94 = .ok (.iconst (-1), 1) := by decide +kernel
theorem dX12_stow_95 : decode cX12_stow 95 = .ok (.ireturn, 1) := by decide +kernel
theorem dX12_tell_0 : decode cX12_tell 0 = .ok (.aload_n 0, 1) := by decide +kernel
theorem dX12_tell_1 : decode cX12_tell 1 = .ok (.iload_n 1, 1) := by decide +kernel
theorem dX12_tell_2 : decode cX12_tell 2 = .ok (.invokevirtual 67, 3) := by decide +kernel
theorem dX12_tell_5 : decode cX12_tell 5 = .ok (.ifCond .ne 8, 3) := by decide +kernel
theorem dX12_tell_8 : decode cX12_tell 8 = .ok (.aload_n 0, 1) := by decide +kernel
theorem dX12_tell_9 : decode cX12_tell 9 = .ok (.invokevirtual 44, 3) := by decide +kernel
theorem dX12_tell_12 : decode cX12_tell 12 = .ok (.ireturn, 1) := by decide +kernel
theorem dX12_tell_13 : decode cX12_tell 13 = .ok (.aload_n 0, 1) := by decide +kernel
theorem dX12_tell_14 : decode cX12_tell 14 = .ok (.getfield 7, 3) := by decide +kernel
theorem dX12_tell_17 : decode cX12_tell 17 = .ok (.bipush 46, 2) := by decide +kernel
theorem dX12_tell_19 : decode cX12_tell 19 = .ok (.iload_n 1, 1) := by decide +kernel
theorem dX12_tell_20 : decode cX12_tell 20 = .ok (.iadd, 1) := by decide +kernel
theorem dX12_tell_21 : decode cX12_tell 21 = .ok (.iaload, 1) := by decide +kernel
theorem dX12_tell_22 : decode cX12_tell 22 = .ok (.istore_n 2, 1) := by decide +kernel
theorem dX12_tell_23 : decode cX12_tell 23 = .ok (.iconst (-1), 1) := by decide +kernel
theorem dX12_tell_24 : decode cX12_tell 24 = .ok (.istore_n 3, 1) := by decide +kernel
theorem dX12_tell_25 : decode cX12_tell 25 = .ok (.lconst 0, 1) := by decide +kernel
theorem dX12_tell_26 : decode cX12_tell 26 = .ok (.lstore 4, 2) := by decide +kernel
theorem dX12_tell_28 : decode cX12_tell 28 = .ok (.lconst 1, 1) := by decide +kernel
theorem dX12_tell_29 : decode cX12_tell 29 = .ok (.lstore 6, 2) := by decide +kernel
theorem dX12_tell_31 : decode cX12_tell 31 = .ok (.iconst 0, 1) := by decide +kernel
theorem dX12_tell_32 : decode cX12_tell 32 = .ok (.istore 8, 2) := by decide +kernel
theorem dX12_tell_34 : decode cX12_tell 34 = .ok (.iload 8, 2) := by decide +kernel
theorem dX12_tell_36 : decode cX12_tell 36 = .ok (.bipush 60, 2) := by decide +kernel
theorem dX12_tell_38 : decode cX12_tell 38 = .ok (.if_icmp .gt 108, 3) := by decide +kernel
theorem dX12_tell_41 : decode cX12_tell 41 = .ok (.aload_n 0, 1) := by decide +kernel
theorem dX12_tell_42 : decode cX12_tell 42 = .ok (.getfield 7, 3) := by decide +kernel
theorem dX12_tell_45 : decode cX12_tell 45 = .ok (.bipush 46, 2) := by decide +kernel
theorem dX12_tell_47 : decode cX12_tell 47 = .ok (.iload_n 1, 1) := by decide +kernel
theorem dX12_tell_48 : decode cX12_tell 48 = .ok (.iadd, 1) := by decide +kernel
theorem dX12_tell_49 : decode cX12_tell 49 = .ok (.iload 8, 2) := by decide +kernel
theorem dX12_tell_51 : decode cX12_tell 51 = .ok (.iastore, 1) := by decide +kernel
theorem dX12_tell_52 : decode cX12_tell 52 = .ok (.aload_n 0, 1) := by decide +kernel
theorem dX12_tell_53 : decode cX12_tell 53 = .ok (.aload_n 0, 1) := by decide +kernel
theorem dX12_tell_54 : decode cX12_tell 54 = .ok (.getfield 7, 3) := by decide +kernel
theorem dX12_tell_57 : decode cX12_tell 57 = .ok (.bipush 14, 2) := by decide +kernel
theorem dX12_tell_59 : decode cX12_tell 59 = .ok (.iload_n 1, 1) := by decide +kernel
theorem dX12_tell_60 : decode cX12_tell 60 = .ok (.iadd, 1) := by decide +kernel
theorem dX12_tell_61 : decode cX12_tell 61 = .ok (.iaload, 1) := by decide +kernel
theorem dX12_tell_62 : decode cX12_tell 62 = .ok (.invokevirtual 190, 3) := by decide +kernel
theorem dX12_tell_65 : decode cX12_tell 65 = .ok (.lstore 9, 2) := by decide +kernel
theorem dX12_tell_67 : decode cX12_tell 67 = .ok (.aload_n 0, 1) := by decide +kernel
theorem dX12_tell_68 : decode cX12_tell 68 = .ok (.invokevirtual 183, 3) := by decide +kernel
theorem dX12_tell_71 : decode cX12_tell 71 = .ok (.i2l, 1) := by decide +kernel
theorem dX12_tell_72 : decode cX12_tell 72 = .ok (.lstore 11, 2) := by decide +kernel
theorem dX12_tell_74 : decode cX12_tell 74 = .ok (.iload_n 3, 1) := by decide +kernel
theorem dX12_tell_75 : decode cX12_tell 75 = .ok (.iconst (-1), 1) := by decide +kernel
theorem dX12_tell_76 : decode cX12_tell 76 = .ok (.if_icmp .eq 17, 3) := by decide +kernel
theorem dX12_tell_79 : decode cX12_tell 79 = .ok (.lload 9, 2) := by decide +kernel
theorem dX12_tell_81 : decode cX12_tell 81 = .ok (.lload 6, 2) := by decide +kernel
theorem dX12_tell_83 : decode cX12_tell 83 = .ok (.lmul, 1) := by decide +kernel
theorem dX12_tell_84 : decode cX12_tell 84 = .ok (.lload 4, 2) := by decide +kernel
theorem dX12_tell_86 : decode cX12_tell 86 = .ok (.lload 11, 2) := by decide +kernel
theorem dX12_tell_88 : decode cX12_tell 88 = .ok (.lmul, 1) := by decide +kernel
theorem dX12_tell_89 : decode cX12_tell 89 = .ok (.lcmp, 1) := by decide +kernel
theorem dX12_tell_90 : decode cX12_tell 90 = .ok (.ifCond .ge 7, 3) := by decide +kernel
theorem dX12_tell_93 : decode cX12_tell 93 = .ok (.iconst 1, 1) := by decide +kernel
theorem dX12_tell_94 : decode cX12_tell 94 = .ok (.goto 4, 3) := by decide +kernel
theorem dX12_tell_97 : decode cX12_tell 97 = .ok (.iconst 0, 1) := by decide +kernel
theorem dX12_tell_98 : decode cX12_tell 98 = .ok (.istore 13, 2) := by decide +kernel
theorem dX12_tell_100 : decode cX12_tell 100 = .ok (.iload 13, 2) := by decide +kernel
theorem dX12_tell_102 : decode cX12_tell 102 = .ok (.ifCond .eq 8, 3) := by decide +kernel
theorem dX12_tell_105 : decode cX12_tell 105 = .ok (.iload 8, 2) := by decide +kernel
theorem dX12_tell_107 : decode cX12_tell 107 = .ok (.goto 4, 3) := by decide +kernel
theorem dX12_tell_110 : decode cX12_tell 110 = .ok (.iload_n 3, 1) := by decide +kernel
theorem dX12_tell_111 : decode cX12_tell 111 = .ok (.istore_n 3, 1) := by decide +kernel
theorem dX12_tell_112 : decode cX12_tell 112 = .ok (.iload 13, 2) := by decide +kernel
theorem dX12_tell_114 : decode cX12_tell 114 = .ok (.ifCond .eq 8, 3) := by decide +kernel
theorem dX12_tell_117 : decode cX12_tell 117 = .ok (.lload 9, 2) := by decide +kernel
theorem dX12_tell_119 : decode cX12_tell 119 = .ok (.goto 5, 3) := by decide +kernel
theorem dX12_tell_122 : decode cX12_tell 122 = .ok (.lload 4, 2) := by decide +kernel
theorem dX12_tell_124 : decode cX12_tell 124 = .ok (.lstore 4, 2) := by decide +kernel
theorem dX12_tell_126 : decode cX12_tell 126 = .ok (.iload 13, 2) := by decide +kernel
theorem dX12_tell_128 : decode cX12_tell 128 = .ok (.ifCond .eq 8, 3) := by decide +kernel
theorem dX12_tell_131 : decode cX12_tell 131 = .ok (.lload 11, 2) := by decide +kernel
theorem dX12_tell_133 : decode cX12_tell 133 = .ok (.goto 5, 3) := by decide +kernel
theorem dX12_tell_136 : decode cX12_tell 136 = .ok (.lload 6, 2) := by decide +kernel
theorem dX12_tell_138 : decode cX12_tell 138 = .ok (.lstore 6, 2) := by decide +kernel
theorem dX12_tell_140 : decode cX12_tell 140 = .ok (.iinc 8 1, 3) := by decide +kernel
theorem dX12_tell_143 : decode cX12_tell 143 = .ok (.goto (-109), 3) := by decide +kernel
theorem dX12_tell_146 : decode cX12_tell 146 = .ok (.aload_n 0, 1) := by decide +kernel
theorem dX12_tell_147 : decode cX12_tell 147 = .ok (.getfield 7, 3) := by decide +kernel
theorem dX12_tell_150 : decode cX12_tell 150 = .ok (.bipush 46, 2) := by decide +kernel
theorem dX12_tell_152 : decode cX12_tell 152 = .ok (.iload_n 1, 1) := by decide +kernel
theorem dX12_tell_153 : decode cX12_tell 153 = .ok (.iadd, 1) := by decide +kernel
theorem dX12_tell_154 : decode cX12_tell 154 = .ok (.iload_n 2, 1) := by decide +kernel
theorem dX12_tell_155 : decode cX12_tell 155 = .ok (.iastore, 1) := by decide +kernel
theorem dX12_tell_156 : decode cX12_tell 156 = .ok (.iload_n 3, 1) := by decide +kernel
theorem dX12_tell_157 : decode cX12_tell 157 = .ok (.ireturn, 1) := by decide +kernel
theorem dX12_marked_0 : decode cX12_marked 0 = .ok (.aload_n 0, 1) := by decide +kernel
theorem dX12_marked_1 : decode cX12_marked 1 = .ok (.iload_n 1, 1) := by decide +kernel
theorem dX12_marked_2 : decode cX12_marked 2 = .ok (.invokevirtual 67, 3) := by decide +kernel
theorem dX12_marked_5 : decode cX12_marked 5 = .ok (.ifCond .eq 15, 3) := by decide +kernel
theorem dX12_marked_8 : decode cX12_marked 8 = .ok (.iload_n 2, 1) := by decide +kernel
theorem dX12_marked_9 : decode cX12_marked 9 = .ok (.i2l, 1) := by decide +kernel
theorem dX12_marked_10 : decode cX12_marked 10 = .ok (.lconst 0, 1) := by decide +kernel
theorem dX12_marked_11 : decode cX12_marked 11 = .ok (.ldc2_w 58, 3) := by decide +kernel
theorem dX12_marked_14 : decode cX12_marked 14 = .ok (.invokestatic 34, 3) := by decide +kernel
theorem dX12_marked_17 : decode cX12_marked 17 = .ok (.ifCond .ne 8, 3) := by decide +kernel
theorem dX12_marked_20 : decode cX12_marked 20 = .ok (.aload_n 0, 1) := by decide +kernel
theorem dX12_marked_21 : decode cX12_marked 21 = .ok (.invokevirtual 44, 3) := by decide +kernel
theorem dX12_marked_24 : decode cX12_marked 24 = .ok (.ireturn, 1) := by decide +kernel
theorem dX12_marked_25 : decode cX12_marked 25 = .ok (.aload_n 0, 1) := by decide +kernel
theorem dX12_marked_26 : decode cX12_marked 26 = .ok (.getfield 7, 3) := by decide +kernel
theorem dX12_marked_29 : decode cX12_marked 29 = .ok (.bipush 46, 2) := by decide +kernel
theorem dX12_marked_31 : decode cX12_marked 31 = .ok (.iload_n 1, 1) := by decide +kernel
theorem dX12_marked_32 : decode cX12_marked 32 = .ok (.iadd, 1) := by decide +kernel
theorem dX12_marked_33 : decode cX12_marked 33 = .ok (.iaload, 1) := by decide +kernel
theorem dX12_marked_34 : decode cX12_marked 34 = .ok (.istore_n 3, 1) := by decide +kernel
theorem dX12_marked_35 : decode cX12_marked 35 = .ok (.aload_n 0, 1) := by decide +kernel
theorem dX12_marked_36 : decode cX12_marked 36 = .ok (.getfield 7, 3) := by decide +kernel
theorem dX12_marked_39 : decode cX12_marked 39 = .ok (.bipush 46, 2) := by decide +kernel
theorem dX12_marked_41 : decode cX12_marked 41 = .ok (.iload_n 1, 1) := by decide +kernel
theorem dX12_marked_42 : decode cX12_marked 42 = .ok (.iadd, 1) := by decide +kernel
theorem dX12_marked_43 : decode cX12_marked 43 = .ok (.iload_n 2, 1) := by decide +kernel
theorem dX12_marked_44 : decode cX12_marked 44 = .ok (.iastore, 1) := by decide +kernel
theorem dX12_marked_45 : decode cX12_marked 45 = .ok (.aload_n 0, 1) := by decide +kernel
theorem dX12_marked_46 : decode cX12_marked 46 = .ok (.aload_n 0, 1) := by decide +kernel
theorem dX12_marked_47 : decode cX12_marked 47 = .ok (.aload_n 0, 1) := by decide +kernel
theorem dX12_marked_48 : decode cX12_marked 48 = .ok (.getfield 7, 3) := by decide +kernel
theorem dX12_marked_51 : decode cX12_marked 51 = .ok (.bipush 14, 2) := by decide +kernel
theorem dX12_marked_53 : decode cX12_marked 53 = .ok (.iload_n 1, 1) := by decide +kernel
theorem dX12_marked_54 : decode cX12_marked 54 = .ok (.iadd, 1) := by decide +kernel
theorem dX12_marked_55 : decode cX12_marked 55 = .ok (.iaload, 1) := by decide +kernel
theorem dX12_marked_56 : decode cX12_marked 56 = .ok (.invokevirtual 190, 3) := by decide +kernel
theorem dX12_marked_59 : decode cX12_marked 59 = .ok (.aload_n 0, 1) := by decide +kernel
theorem dX12_marked_60 : decode cX12_marked 60 = .ok (.invokevirtual 183, 3) := by decide +kernel
theorem dX12_marked_63 : decode cX12_marked 63 = .ok (.i2l, 1) := by decide +kernel
theorem dX12_marked_64 : decode cX12_marked 64 = .ok (.invokevirtual 186, 3) := by decide +kernel
theorem dX12_marked_67 : decode cX12_marked 67 = .ok (.istore 4, 2) := by decide +kernel
theorem dX12_marked_69 : decode cX12_marked 69 = .ok (.aload_n 0, 1) := by decide +kernel
theorem dX12_marked_70 : decode cX12_marked 70 = .ok (.getfield 7, 3) := by decide +kernel
theorem dX12_marked_73 : decode cX12_marked 73 = .ok (.bipush 46, 2) := by decide +kernel
theorem dX12_marked_75 : decode cX12_marked 75 = .ok (.iload_n 1, 1) := by decide +kernel
theorem dX12_marked_76 : decode cX12_marked 76 = .ok (.iadd, 1) := by decide +kernel
theorem dX12_marked_77 : decode cX12_marked 77 = .ok (.iload_n 3, 1) := by decide +kernel
theorem dX12_marked_78 : decode cX12_marked 78 = .ok (.iastore, 1) := by decide +kernel
theorem dX12_marked_79 : decode cX12_marked 79 = .ok (.iload 4, 2) := by decide +kernel
theorem dX12_marked_81 : decode cX12_marked 81 = .ok (.ireturn, 1) := by decide +kernel
theorem dX12_seen_0 : decode cX12_seen 0 = .ok (.iload_n 1, 1) := by decide +kernel
theorem dX12_seen_1 : decode cX12_seen 1 = .ok (.i2l, 1) := by decide +kernel
theorem dX12_seen_2 : decode cX12_seen 2 = .ok (.lconst 1, 1) := by decide +kernel
theorem dX12_seen_3 : decode cX12_seen 3 = .ok (.ldc2_w 56, 3) := by decide +kernel
theorem dX12_seen_6 : decode cX12_seen 6 = .ok (.invokestatic 34, 3) := by decide +kernel
theorem dX12_seen_9 : decode cX12_seen 9 = .ok (.ifCond .eq 27, 3) := by decide +kernel
theorem dX12_seen_12 : decode cX12_seen 12 = .ok (.iload_n 2, 1) := by decide +kernel
theorem dX12_seen_13 : decode cX12_seen 13 = .ok (.i2l, 1) := by decide +kernel
theorem dX12_seen_14 : decode cX12_seen 14 = .ok (.lconst 0, 1) := by decide +kernel
theorem dX12_seen_15 : decode cX12_seen 15 = .ok (.ldc2_w 58, 3) := by decide +kernel
theorem dX12_seen_18 : decode cX12_seen 18 = .ok (.invokestatic 34, 3) := by decide +kernel
theorem dX12_seen_21 : decode cX12_seen 21 = .ok (.ifCond .eq 15, 3) := by decide +kernel
theorem dX12_seen_24 : decode cX12_seen 24 = .ok (.iload_n 3, 1) := by decide +kernel
theorem dX12_seen_25 : decode cX12_seen 25 = .ok (.i2l, 1) := by decide +kernel
theorem dX12_seen_26 : decode cX12_seen 26 = .ok (.lconst 0, 1) := by decide +kernel
theorem dX12_seen_27 : decode cX12_seen 27 = .ok (.ldc2_w 38, 3) := by decide +kernel
theorem dX12_seen_30 : decode cX12_seen 30 = .ok (.invokestatic 34, 3) := by decide +kernel
theorem dX12_seen_33 : decode cX12_seen 33 = .ok (.ifCond .ne 8, 3) := by decide +kernel
theorem dX12_seen_36 : decode cX12_seen 36 = .ok (.aload_n 0, 1) := by decide +kernel
theorem dX12_seen_37 : decode cX12_seen 37 = .ok (.invokevirtual 44, 3) := by decide +kernel
theorem dX12_seen_40 : decode cX12_seen 40 = .ok (.ireturn, 1) := by decide +kernel
theorem dX12_seen_41 : decode cX12_seen 41 = .ok (.aload_n 0, 1) := by decide +kernel
theorem dX12_seen_42 : decode cX12_seen 42 = .ok (.getfield 7, 3) := by decide +kernel
theorem dX12_seen_45 : decode cX12_seen 45 = .ok (.iconst 3, 1) := by decide +kernel
theorem dX12_seen_46 : decode cX12_seen 46 = .ok (.iaload, 1) := by decide +kernel
theorem dX12_seen_47 : decode cX12_seen 47 = .ok (.bipush 6, 2) := by decide +kernel
theorem dX12_seen_49 : decode cX12_seen 49 = .ok (.if_icmp .ne 8, 3) := by decide +kernel
theorem dX12_seen_52 : decode cX12_seen 52 = .ok (.aload_n 0, 1) := by decide +kernel
theorem dX12_seen_53 : decode cX12_seen 53 = .ok (.invokevirtual 60, 3) := by decide +kernel
theorem dX12_seen_56 : decode cX12_seen 56 = .ok (.ireturn, 1) := by decide +kernel
theorem dX12_seen_57 : decode cX12_seen 57 = .ok (.bipush 54, 2) := by decide +kernel
theorem dX12_seen_59 : decode cX12_seen 59 = .ok (.iconst 3, 1) := by decide +kernel
theorem dX12_seen_60 : decode cX12_seen 60 = .ok (.aload_n 0, 1) := by decide +kernel
theorem dX12_seen_61 : decode cX12_seen 61 = .ok (.getfield 7, 3) := by decide +kernel
theorem dX12_seen_64 : decode cX12_seen 64 = .ok (.iconst 3, 1) := by decide +kernel
theorem dX12_seen_65 : decode cX12_seen 65 = .ok (.iaload, 1) := by decide +kernel
theorem dX12_seen_66 : decode cX12_seen 66 = .ok (.imul, 1) := by decide +kernel
theorem dX12_seen_67 : decode cX12_seen 67 = .ok (.iadd, 1) := by decide +kernel
theorem dX12_seen_68 : decode cX12_seen 68 = .ok (.istore 4, 2) := by decide +kernel
theorem dX12_seen_70 : decode cX12_seen 70 = .ok (.aload_n 0, 1) := by decide +kernel
theorem dX12_seen_71 : decode cX12_seen 71 = .ok (.getfield 7, 3) := by decide +kernel
theorem dX12_seen_74 : decode cX12_seen 74 = .ok (.iload 4, 2) := by decide +kernel
theorem dX12_seen_76 : decode cX12_seen 76 = .ok (.iload_n 1, 1) := by decide +kernel
theorem dX12_seen_77 : decode cX12_seen 77 = .ok (.iastore, 1) := by decide +kernel
theorem dX12_seen_78 : decode cX12_seen 78 = .ok (.aload_n 0, 1) := by decide +kernel
theorem dX12_seen_79 : decode cX12_seen 79 = .ok (.getfield 7, 3) := by decide +kernel
theorem dX12_seen_82 : decode cX12_seen 82 = .ok (.iload 4, 2) := by decide +kernel
theorem dX12_seen_84 : decode cX12_seen 84 = .ok (.iconst 1, 1) := by decide +kernel
theorem dX12_seen_85 : decode cX12_seen 85 = .ok (.iadd, 1) := by decide +kernel
theorem dX12_seen_86 : decode cX12_seen 86 = .ok (.iload_n 2, 1) := by decide +kernel
theorem dX12_seen_87 : decode cX12_seen 87 = .ok (.iastore, 1) := by decide +kernel
theorem dX12_seen_88 : decode cX12_seen 88 = .ok (.aload_n 0, 1) := by decide +kernel
theorem dX12_seen_89 : decode cX12_seen 89 = .ok (.getfield 7, 3) := by decide +kernel
theorem dX12_seen_92 : decode cX12_seen 92 = .ok (.iload 4, 2) := by decide +kernel
theorem dX12_seen_94 : decode cX12_seen 94 = .ok (.iconst 2, 1) := by decide +kernel
theorem dX12_seen_95 : decode cX12_seen 95 = .ok (.iadd, 1) := by decide +kernel
theorem dX12_seen_96 : decode cX12_seen 96 = .ok (.iload_n 3, 1) := by decide +kernel
theorem dX12_seen_97 : decode cX12_seen 97 = .ok (.iastore, 1) := by decide +kernel
theorem dX12_seen_98 : decode cX12_seen 98 = .ok (.aload_n 0, 1) := by decide +kernel
theorem dX12_seen_99 : decode cX12_seen 99 = .ok (.getfield 7, 3) := by decide +kernel
theorem dX12_seen_102 : decode cX12_seen 102 = .ok (.iconst 3, 1) := by decide +kernel
theorem dX12_seen_103 : decode cX12_seen 103 = .ok (.dup2, 1) := by decide +kernel
theorem dX12_seen_104 : decode cX12_seen 104 = .ok (.iaload, 1) := by decide +kernel
theorem dX12_seen_105 : decode cX12_seen 105 = .ok (.iconst 1, 1) := by decide +kernel
theorem dX12_seen_106 : decode cX12_seen 106 = .ok (.iadd, 1) := by decide +kernel
theorem dX12_seen_107 : decode cX12_seen 107 = .ok (.iastore, 1) := by decide +kernel
theorem dX12_seen_108 : decode cX12_seen 108 = .ok (.aload_n 0, 1) := by decide +kernel
theorem dX12_seen_109 : decode cX12_seen 109 = .ok (.getfield 7, 3) := by decide +kernel
theorem dX12_seen_112 : decode cX12_seen 112 = .ok (.iconst 3, 1) := by decide +kernel
theorem dX12_seen_113 : decode cX12_seen 113 = .ok (.iaload, 1) := by decide +kernel
theorem dX12_seen_114 : decode cX12_seen 114 = .ok (.ireturn, 1) := by decide +kernel
theorem dX12_forget_0 : decode cX12_forget 0 = .ok (.aload_n 0, 1) := by decide +kernel
theorem dX12_forget_1 : decode cX12_forget 1 = .ok (.getfield 7, 3) := by decide +kernel
theorem dX12_forget_4 : decode cX12_forget 4 = .ok (.iconst 3, 1) := by decide +kernel
theorem dX12_forget_5 : decode cX12_forget 5 = .ok (.iaload, 1) := by decide +kernel
theorem dX12_forget_6 : decode cX12_forget 6 = .ok (.istore_n 1, 1) := by decide +kernel
theorem dX12_forget_7 : decode cX12_forget 7 = .ok (.aload_n 0, 1) := by decide +kernel
theorem dX12_forget_8 : decode cX12_forget 8 = .ok (.getfield 7, 3) := by decide +kernel
theorem dX12_forget_11 : decode cX12_forget 11 = .ok (.iconst 3, 1) := by decide +kernel
theorem dX12_forget_12 : decode cX12_forget 12 = .ok (.iconst 0, 1) := by decide +kernel
theorem dX12_forget_13 : decode cX12_forget 13 = .ok (.iastore, 1) := by decide +kernel
theorem dX12_forget_14 : decode cX12_forget 14 = .ok (.iload_n 1, 1) := by decide +kernel
theorem dX12_forget_15 : decode cX12_forget 15 = .ok (.ireturn, 1) := by decide +kernel
theorem dX12_barrel_0 : decode cX12_barrel 0 = .ok (.aload_n 0, 1) := by decide +kernel
theorem dX12_barrel_1 : decode cX12_barrel 1 = .ok (.invokevirtual 212, 3) := by decide +kernel
theorem dX12_barrel_4 : decode cX12_barrel 4 = .ok (.istore_n 1, 1) := by decide +kernel
theorem dX12_barrel_5 : decode cX12_barrel 5 = .ok (.iconst 0, 1) := by decide +kernel
theorem dX12_barrel_6 : decode cX12_barrel 6 = .ok (.istore_n 2, 1) := by decide +kernel
theorem dX12_barrel_7 : decode cX12_barrel 7 = .ok (.iload_n 2, 1) := by decide +kernel
theorem dX12_barrel_8 : decode cX12_barrel 8 = .ok (.aload_n 0, 1) := by decide +kernel
theorem dX12_barrel_9 : decode cX12_barrel 9 = .ok (.getfield 7, 3) := by decide +kernel
theorem dX12_barrel_12 : decode cX12_barrel 12 = .ok (.iconst 0, 1) := by decide +kernel
theorem dX12_barrel_13 : decode cX12_barrel 13 = .ok (.iaload, 1) := by decide +kernel
theorem dX12_barrel_14 : decode cX12_barrel 14 = .ok (.if_icmp .ge 135, 3) := by decide +kernel
theorem dX12_barrel_17 : decode cX12_barrel 17 = .ok (.iconst 0, 1) := by decide +kernel
theorem dX12_barrel_18 : decode cX12_barrel 18 = .ok (.istore_n 3, 1) := by decide +kernel
theorem dX12_barrel_19 : decode cX12_barrel 19 = .ok (.iload_n 3, 1) := by decide +kernel
theorem dX12_barrel_20 : decode cX12_barrel 20 = .ok (.aload_n 0, 1) := by decide +kernel
theorem dX12_barrel_21 : decode cX12_barrel 21 = .ok (.getfield 7, 3) := by decide +kernel
theorem dX12_barrel_24 : decode cX12_barrel 24 = .ok (.iconst 3, 1) := by decide +kernel
theorem dX12_barrel_25 : decode cX12_barrel 25 = .ok (.iaload, 1) := by decide +kernel
theorem dX12_barrel_26 : decode cX12_barrel 26 = .ok (.if_icmp .ge 117, 3) := by decide +kernel
theorem dX12_barrel_29 : decode cX12_barrel 29 = .ok (.bipush 54, 2) := by decide +kernel
theorem dX12_barrel_31 : decode cX12_barrel 31 = .ok (.iconst 3, 1) := by decide +kernel
theorem dX12_barrel_32 : decode cX12_barrel 32 = .ok (.iload_n 3, 1) := by decide +kernel
theorem dX12_barrel_33 : decode cX12_barrel 33 = .ok (.imul, 1) := by decide +kernel
theorem dX12_barrel_34 : decode cX12_barrel 34 = .ok (.iadd, 1) := by decide +kernel
theorem dX12_barrel_35 : decode cX12_barrel 35 = .ok (.istore 4, 2) := by decide +kernel
theorem dX12_barrel_37 : decode cX12_barrel 37 = .ok (.aload_n 0, 1) := by decide +kernel
theorem dX12_barrel_38 : decode cX12_barrel 38 = .ok (.getfield 7, 3) := by decide +kernel
theorem dX12_barrel_41 : decode cX12_barrel 41 = .ok (.bipush 30, 2) := by decide +kernel
theorem dX12_barrel_43 : decode cX12_barrel 43 = .ok (.iload_n 2, 1) := by decide +kernel
theorem dX12_barrel_44 : decode cX12_barrel 44 = .ok (.iadd, 1) := by decide +kernel
theorem dX12_barrel_45 : decode cX12_barrel 45 = .ok (.iaload, 1) := by decide +kernel
theorem dX12_barrel_46 : decode cX12_barrel 46 = .ok (.aload_n 0, 1) := by decide +kernel
theorem dX12_barrel_47 : decode cX12_barrel 47 = .ok (.getfield 7, 3) := by decide +kernel
theorem dX12_barrel_50 : decode cX12_barrel 50 = .ok (.iload 4, 2) := by decide +kernel
theorem dX12_barrel_52 : decode cX12_barrel 52 = .ok (.iaload, 1) := by decide +kernel
theorem dX12_barrel_53 : decode cX12_barrel 53 = .ok (.if_icmp .lt 62, 3) := by decide +kernel
theorem dX12_barrel_56 : decode cX12_barrel 56 = .ok (.aload_n 0, 1) := by decide +kernel
theorem dX12_barrel_57 : decode cX12_barrel 57 = .ok (.getfield 7, 3) := by decide +kernel
theorem dX12_barrel_60 : decode cX12_barrel 60 = .ok (.bipush 38, 2) := by decide +kernel
theorem dX12_barrel_62 : decode cX12_barrel 62 = .ok (.iload_n 2, 1) := by decide +kernel
theorem dX12_barrel_63 : decode cX12_barrel 63 = .ok (.iadd, 1) := by decide +kernel
theorem dX12_barrel_64 : decode cX12_barrel 64 = .ok (.iaload, 1) := by decide +kernel
theorem dX12_barrel_65 : decode cX12_barrel 65 = .ok (.aload_n 0, 1) := by decide +kernel
theorem dX12_barrel_66 : decode cX12_barrel 66 = .ok (.getfield 7, 3) := by decide +kernel
theorem dX12_barrel_69 : decode cX12_barrel 69 = .ok (.iload 4, 2) := by decide +kernel
theorem dX12_barrel_71 : decode cX12_barrel 71 = .ok (.iconst 1, 1) := by decide +kernel
theorem dX12_barrel_72 : decode cX12_barrel 72 = .ok (.iadd, 1) := by decide +kernel
theorem dX12_barrel_73 : decode cX12_barrel 73 = .ok (.iaload, 1) := by decide +kernel
theorem dX12_barrel_74 : decode cX12_barrel 74 = .ok (.if_icmp .gt 41, 3) := by decide +kernel
theorem dX12_barrel_77 : decode cX12_barrel 77 = .ok (.aload_n 0, 1) := by decide +kernel
theorem dX12_barrel_78 : decode cX12_barrel 78 = .ok (.getfield 7, 3) := by decide +kernel
theorem dX12_barrel_81 : decode cX12_barrel 81 = .ok (.iload 4, 2) := by decide +kernel
theorem dX12_barrel_83 : decode cX12_barrel 83 = .ok (.iconst 2, 1) := by decide +kernel
theorem dX12_barrel_84 : decode cX12_barrel 84 = .ok (.iadd, 1) := by decide +kernel
theorem dX12_barrel_85 : decode cX12_barrel 85 = .ok (.iaload, 1) := by decide +kernel
theorem dX12_barrel_86 : decode cX12_barrel 86 = .ok (.iconst 3, 1) := by decide +kernel
theorem dX12_barrel_87 : decode cX12_barrel 87 = .ok (.if_icmp .eq 24, 3) := by decide +kernel
theorem dX12_barrel_90 : decode cX12_barrel 90 = .ok (.aload_n 0, 1) := by decide +kernel
theorem dX12_barrel_91 : decode cX12_barrel 91 = .ok (.getfield 7, 3) := by decide +kernel
theorem dX12_barrel_94 : decode cX12_barrel 94 = .ok (.iload 4, 2) := by decide +kernel
theorem dX12_barrel_96 : decode cX12_barrel 96 = .ok (.iconst 2, 1) := by decide +kernel
theorem dX12_barrel_97 : decode cX12_barrel 97 = .ok (.iadd, 1) := by decide +kernel
theorem dX12_barrel_98 : decode cX12_barrel 98 = .ok (.iaload, 1) := by decide +kernel
theorem dX12_barrel_99 : decode cX12_barrel 99 = .ok (.aload_n 0, 1) := by decide +kernel
theorem dX12_barrel_100 : decode cX12_barrel 100 = .ok (.getfield 7, 3) := by decide +kernel
theorem dX12_barrel_103 : decode cX12_barrel 103 = .ok (.bipush 22, 2) := by decide +kernel
theorem dX12_barrel_105 : decode cX12_barrel 105 = .ok (.iload_n 2, 1) := by decide +kernel
theorem dX12_barrel_106 : decode cX12_barrel 106 = .ok (.iadd, 1) := by decide +kernel
theorem dX12_barrel_107 : decode cX12_barrel 107 = .ok (.iaload, 1) := by decide +kernel
theorem dX12_barrel_108 : decode cX12_barrel 108 = .ok (.if_icmp .ne 7, 3) := by decide +kernel
theorem dX12_barrel_111 : decode cX12_barrel 111 = .ok (.iconst 1, 1) := by decide +kernel
theorem dX12_barrel_112 : decode cX12_barrel 112 = .ok (.goto 4, 3) := by decide +kernel
theorem dX12_barrel_115 : decode cX12_barrel 115 = .ok (.iconst 0, 1) := by decide +kernel
theorem dX12_barrel_116 : decode cX12_barrel 116 = .ok (.istore 5, 2) := by decide +kernel
theorem dX12_barrel_118 : decode cX12_barrel 118 = .ok (.iload_n 1, 1) := by decide +kernel
theorem dX12_barrel_119 : decode cX12_barrel 119 = .ok (.iload 5, 2) := by decide +kernel
theorem dX12_barrel_121 : decode cX12_barrel 121 = .ok (.ifCond .eq 9, 3) := by decide +kernel
theorem dX12_barrel_124 : decode cX12_barrel 124 = .ok (.sipush 255, 3) := by decide +kernel
theorem dX12_barrel_127 : decode cX12_barrel 127 = .ok (.goto 8, 3) := by decide +kernel
theorem dX12_barrel_130 : decode cX12_barrel 130 = .ok (.iconst 1, 1) := by decide +kernel
theorem dX12_barrel_131 : decode cX12_barrel 131 = .ok (.iload_n 2, 1) := by decide +kernel
theorem dX12_barrel_132 : decode cX12_barrel 132 = .ok (.ishl, 1) := by decide +kernel
theorem dX12_barrel_133 : decode cX12_barrel 133 = .ok (.iconst (-1), 1) := by decide +kernel
theorem dX12_barrel_134 : decode cX12_barrel 134 = .ok (.ixor, 1) := by decide +kernel
theorem dX12_barrel_135 : decode cX12_barrel 135 = .ok (.iand, 1) := by decide +kernel
theorem dX12_barrel_136 : decode cX12_barrel 136 = .ok (.istore_n 1, 1) := by decide +kernel
theorem dX12_barrel_137 : decode cX12_barrel 137 = .ok (.iinc 3 1, 3) := by decide +kernel
theorem dX12_barrel_140 : decode cX12_barrel 140 = .ok (.goto (-121), 3) := by decide +kernel
theorem dX12_barrel_143 : decode cX12_barrel 143 = .ok (.iinc 2 1, 3) := by decide +kernel
theorem dX12_barrel_146 : decode cX12_barrel 146 = .ok (.goto (-139), 3) := by decide +kernel
theorem dX12_barrel_149 : decode cX12_barrel 149 = .ok (.iload_n 1, 1) := by decide +kernel
theorem dX12_barrel_150 : decode cX12_barrel 150 = .ok (.ireturn, 1) := by decide +kernel
theorem dX12_whose_0 : decode cX12_whose 0 = .ok (.iconst 0, 1) := by decide +kernel
theorem dX12_whose_1 : decode cX12_whose 1 = .ok (.istore_n 1, 1) := by decide +kernel
theorem dX12_whose_2 : decode cX12_whose 2 = .ok (.aload_n 0, 1) := by decide +kernel
theorem dX12_whose_3 : decode cX12_whose 3 = .ok (.invokevirtual 215, 3) := by decide +kernel
theorem dX12_whose_6 : decode cX12_whose 6 = .ok (.istore_n 2, 1) := by decide +kernel
theorem dX12_whose_7 : decode cX12_whose 7 = .ok (.iconst 0, 1) := by decide +kernel
theorem dX12_whose_8 : decode cX12_whose 8 = .ok (.istore_n 3, 1) := by decide +kernel
theorem dX12_whose_9 : decode cX12_whose 9 = .ok (.iload_n 3, 1) := by decide +kernel
theorem dX12_whose_10 : decode cX12_whose 10 = .ok (.aload_n 0, 1) := by decide +kernel
theorem dX12_whose_11 : decode cX12_whose 11 = .ok (.getfield 7, 3) := by decide +kernel
theorem dX12_whose_14 : decode cX12_whose 14 = .ok (.iconst 0, 1) := by decide +kernel
theorem dX12_whose_15 : decode cX12_whose 15 = .ok (.iaload, 1) := by decide +kernel
theorem dX12_whose_16 : decode cX12_whose 16 = .ok (.if_icmp .ge 35, 3) := by decide +kernel
theorem dX12_whose_19 : decode cX12_whose 19 = .ok (.iload_n 1, 1) := by decide +kernel
theorem dX12_whose_20 : decode cX12_whose 20 = .ok (.iload_n 2, 1) := by decide +kernel
theorem dX12_whose_21 : decode cX12_whose 21 = .ok (.iload_n 3, 1) := by decide +kernel
theorem dX12_whose_22 : decode cX12_whose 22 = .ok (.invokestatic 70, 3) := by decide +kernel
theorem dX12_whose_25 : decode cX12_whose 25 = .ok (.ifCond .eq 17, 3) := by decide +kernel
theorem dX12_whose_28 : decode cX12_whose 28 = .ok (.iconst 1, 1) := by decide +kernel
theorem dX12_whose_29 : decode cX12_whose 29 = .ok (.aload_n 0, 1) := by decide +kernel
theorem dX12_whose_30 : decode cX12_whose 30 = .ok (.getfield 7, 3) := by decide +kernel
theorem dX12_whose_33 : decode cX12_whose 33 = .ok (.bipush 14, 2) := by decide +kernel
theorem dX12_whose_35 : decode cX12_whose 35 = .ok (.iload_n 3, 1) := by decide +kernel
theorem dX12_whose_36 : decode cX12_whose 36 = .ok (.iadd, 1) := by decide +kernel
theorem dX12_whose_37 : decode cX12_whose 37 = .ok (.iaload, 1) := by decide +kernel
theorem dX12_whose_38 : decode cX12_whose 38 = .ok (.ishl, 1) := by decide +kernel
theorem dX12_whose_39 : decode cX12_whose 39 = .ok (.goto 4, 3) := by decide +kernel
theorem dX12_whose_42 : decode cX12_whose 42 = .ok (.iconst 0, 1) := by decide +kernel
theorem dX12_whose_43 : decode cX12_whose 43 = .ok (.ior, 1) := by decide +kernel
theorem dX12_whose_44 : decode cX12_whose 44 = .ok (.istore_n 1, 1) := by decide +kernel
theorem dX12_whose_45 : decode cX12_whose 45 = .ok (.iinc 3 1, 3) := by decide +kernel
theorem dX12_whose_48 : decode cX12_whose 48 = .ok (.goto (-39), 3) := by decide +kernel
theorem dX12_whose_51 : decode cX12_whose 51 = .ok (.iload_n 1, 1) := by decide +kernel
theorem dX12_whose_52 : decode cX12_whose 52 = .ok (.ireturn, 1) := by decide +kernel
theorem dX12_asks_0 : decode cX12_asks 0 = .ok (.aload_n 0, 1) := by decide +kernel
theorem dX12_asks_1 : decode cX12_asks 1 = .ok (.invokevirtual 215, 3) := by decide +kernel
theorem dX12_asks_4 : decode cX12_asks 4 = .ok (.istore_n 1, 1) := by decide +kernel
theorem dX12_asks_5 : decode cX12_asks 5 = .ok (.iconst (-1), 1) := by decide +kernel
theorem dX12_asks_6 : decode cX12_asks 6 = .ok (.istore_n 2, 1) := by decide +kernel
theorem dX12_asks_7 : decode cX12_asks 7 = .ok (.ldc 197, 2) := by decide +kernel
theorem dX12_asks_9 : decode cX12_asks 9 = .ok (.istore_n 3, 1) := by decide +kernel
theorem dX12_asks_10 : decode cX12_asks 10 = .ok (.iconst 0, 1) := by decide +kernel
theorem dX12_asks_11 : decode cX12_asks 11 = .ok (.istore 4, 2) := by decide +kernel
theorem dX12_asks_13 : decode cX12_asks 13 = .ok (.iload 4, 2) := by decide +kernel
theorem dX12_asks_15 : decode cX12_asks 15 = .ok (.bipush 9, 2) := by decide +kernel
theorem dX12_asks_17 : decode cX12_asks 17 = .ok (.if_icmp .ge 164, 3) := by decide +kernel
theorem dX12_asks_20 : decode cX12_asks 20 = .ok (.iload_n 1, 1) := by decide +kernel
theorem dX12_asks_21 : decode cX12_asks 21 = .ok (.ifCond .eq 160, 3) := by decide +kernel
theorem dX12_asks_24 : decode cX12_asks 24 = .ok (.iconst 0, 1) := by decide +kernel
theorem dX12_asks_25 : decode cX12_asks 25 = .ok (.istore 5, 2) := by decide +kernel
theorem dX12_asks_27 : decode cX12_asks 27 = .ok (.iconst 0, 1) := by decide +kernel
theorem dX12_asks_28 : decode cX12_asks 28 = .ok (.istore 6, 2) := by decide +kernel
theorem dX12_asks_30 : decode cX12_asks 30 = .ok (.iload 6, 2) := by decide +kernel
theorem dX12_asks_32 : decode cX12_asks 32 = .ok (.aload_n 0, 1) := by decide +kernel
theorem dX12_asks_33 : decode cX12_asks 33 = .ok (.getfield 7, 3) := by decide +kernel
theorem dX12_asks_36 : decode cX12_asks 36 = .ok (.iconst 0, 1) := by decide +kernel
theorem dX12_asks_37 : decode cX12_asks 37 = .ok (.iaload, 1) := by decide +kernel
theorem dX12_asks_38 : decode cX12_asks 38 = .ok (.if_icmp .ge 86, 3) := by decide +kernel
theorem dX12_asks_41 : decode cX12_asks 41 = .ok (.iload 4, 2) := by decide +kernel
theorem dX12_asks_43 : decode cX12_asks 43 = .ok (.iconst 3, 1) := by decide +kernel
theorem dX12_asks_44 : decode cX12_asks 44 = .ok (.if_icmp .ge 26, 3) := by decide +kernel
theorem dX12_asks_47 : decode cX12_asks 47 = .ok (.aload_n 0, 1) := by decide +kernel
theorem dX12_asks_48 : decode cX12_asks 48 = .ok (.getfield 7, 3) := by decide +kernel
theorem dX12_asks_51 : decode cX12_asks 51 = .ok (.bipush 22, 2) := by decide +kernel
theorem dX12_asks_53 : decode cX12_asks 53 = .ok (.iload 6, 2) := by decide +kernel
theorem dX12_asks_55 : decode cX12_asks 55 = .ok (.iadd, 1) := by decide +kernel
theorem dX12_asks_56 : decode cX12_asks 56 = .ok (.iaload, 1) := by decide +kernel
theorem dX12_asks_57 : decode cX12_asks 57 = .ok (.iload 4, 2) := by decide +kernel
theorem dX12_asks_59 : decode cX12_asks 59 = .ok (.if_icmp .ne 7, 3) := by decide +kernel
theorem dX12_asks_62 : decode cX12_asks 62 = .ok (.iconst 1, 1) := by decide +kernel
theorem dX12_asks_63 : decode cX12_asks 63 = .ok (.goto 29, 3) := by decide +kernel
theorem dX12_asks_66 : decode cX12_asks 66 = .ok (.iconst 0, 1) := by decide +kernel
theorem dX12_asks_67 : decode cX12_asks 67 = .ok (.goto 25, 3) := by decide +kernel
theorem dX12_asks_70 : decode cX12_asks 70 = .ok (.aload_n 0, 1) := by decide +kernel
theorem dX12_asks_71 : decode cX12_asks 71 = .ok (.getfield 7, 3) := by decide +kernel
theorem dX12_asks_74 : decode cX12_asks 74 = .ok (.bipush 6, 2) := by decide +kernel
theorem dX12_asks_76 : decode cX12_asks 76 = .ok (.iload 6, 2) := by decide +kernel
theorem dX12_asks_78 : decode cX12_asks 78 = .ok (.iadd, 1) := by decide +kernel
theorem dX12_asks_79 : decode cX12_asks 79 = .ok (.iaload, 1) := by decide +kernel
theorem dX12_asks_80 : decode cX12_asks 80 = .ok (.iload 4, 2) := by decide +kernel
theorem dX12_asks_82 : decode cX12_asks 82 = .ok (.iconst 3, 1) := by decide +kernel
theorem dX12_asks_83 : decode cX12_asks 83 = .ok (.isub, 1) := by decide +kernel
theorem dX12_asks_84 : decode cX12_asks 84 = .ok (.if_icmp .ne 7, 3) := by decide +kernel
theorem dX12_asks_87 : decode cX12_asks 87 = .ok (.iconst 1, 1) := by decide +kernel
theorem dX12_asks_88 : decode cX12_asks 88 = .ok (.goto 4, 3) := by decide +kernel
theorem dX12_asks_91 : decode cX12_asks 91 = .ok (.iconst 0, 1) := by decide +kernel
theorem dX12_asks_92 : decode cX12_asks 92 = .ok (.istore 7, 2) := by decide +kernel
theorem dX12_asks_94 : decode cX12_asks 94 = .ok (.iload 5, 2) := by decide +kernel
theorem dX12_asks_96 : decode cX12_asks 96 = .ok (.iload_n 1, 1) := by decide +kernel
theorem dX12_asks_97 : decode cX12_asks 97 = .ok (.iload 6, 2) := by decide +kernel
theorem dX12_asks_99 : decode cX12_asks 99 = .ok (.invokestatic 70, 3) := by decide +kernel
theorem dX12_asks_102 : decode cX12_asks 102 = .ok (.ifCond .eq 12, 3) := by decide +kernel
theorem dX12_asks_105 : decode cX12_asks 105 = .ok (.iload 7, 2) := by decide +kernel
theorem dX12_asks_107 : decode cX12_asks 107 = .ok (.ifCond .eq 7, 3) := by decide +kernel
theorem dX12_asks_110 : decode cX12_asks 110 = .ok (.iconst 1, 1) := by decide +kernel
theorem dX12_asks_111 : decode cX12_asks 111 = .ok (.goto 4, 3) := by decide +kernel
theorem dX12_asks_114 : decode cX12_asks 114 = .ok (.iconst 0, 1) := by decide +kernel
theorem dX12_asks_115 : decode cX12_asks 115 = .ok (.iadd, 1) := by decide +kernel
theorem dX12_asks_116 : decode cX12_asks 116 = .ok (.istore 5, 2) := by decide +kernel
theorem dX12_asks_118 : decode cX12_asks 118 = .ok (.iinc 6 1, 3) := by decide +kernel
theorem dX12_asks_121 : decode cX12_asks 121 = .ok (.goto (-91), 3) := by decide +kernel
theorem dX12_asks_124 : decode cX12_asks 124 = .ok (.iload_n 1, 1) := by decide +kernel
theorem dX12_asks_125 : decode cX12_asks 125 = .ok (.invokestatic 155, 3) := by decide +kernel
theorem dX12_asks_128 : decode cX12_asks 128 = .ok (.iload 5, 2) := by decide +kernel
theorem dX12_asks_130 : decode cX12_asks 130 = .ok (.isub, 1) := by decide +kernel
theorem dX12_asks_131 : decode cX12_asks 131 = .ok (.istore 6, 2) := by decide +kernel
theorem dX12_asks_133 : decode cX12_asks 133 = .ok (.iload 5, 2) := by decide +kernel
theorem dX12_asks_135 : decode cX12_asks 135 = .ok (.iload 6, 2) := by decide +kernel
theorem dX12_asks_137 : decode cX12_asks 137 = .ok (.if_icmp .le 8, 3) := by decide +kernel
theorem dX12_asks_140 : decode cX12_asks 140 = .ok (.iload 5, 2) := by decide +kernel
theorem dX12_asks_142 : decode cX12_asks 142 = .ok (.goto 5, 3) := by decide +kernel
theorem dX12_asks_145 : decode cX12_asks 145 = .ok (.iload 6, 2) := by decide +kernel
theorem dX12_asks_147 : decode cX12_asks 147 = .ok (.istore 7, 2) := by decide +kernel
theorem dX12_asks_149 : decode cX12_asks 149 = .ok (.iload 7, 2) := by decide +kernel
theorem dX12_asks_151 : decode cX12_asks 151 = .ok (.iload_n 3, 1) := by decide +kernel
theorem dX12_asks_152 : decode cX12_asks 152 = .ok (.if_icmp .ge 8, 3) := by decide +kernel
theorem dX12_asks_155 : decode cX12_asks 155 = .ok (.iload 4, 2) := by decide +kernel
theorem dX12_asks_157 : decode cX12_asks 157 = .ok (.goto 4, 3) := by decide +kernel
theorem dX12_asks_160 : decode cX12_asks 160 = .ok (.iload_n 2, 1) := by decide +kernel
theorem dX12_asks_161 : decode cX12_asks 161 = .ok (.istore_n 2, 1) := by decide +kernel
theorem dX12_asks_162 : decode cX12_asks 162 = .ok (.iload 7, 2) := by decide +kernel
theorem dX12_asks_164 : decode cX12_asks 164 = .ok (.iload_n 3, 1) := by decide +kernel
theorem dX12_asks_165 : decode cX12_asks 165 = .ok (.if_icmp .ge 8, 3) := by decide +kernel
theorem dX12_asks_168 : decode cX12_asks 168 = .ok (.iload 7, 2) := by decide +kernel
theorem dX12_asks_170 : decode cX12_asks 170 = .ok (.goto 4, 3) := by decide +kernel
theorem dX12_asks_173 : decode cX12_asks 173 = .ok (.iload_n 3, 1) := by decide +kernel
theorem dX12_asks_174 : decode cX12_asks 174 = .ok (.istore_n 3, 1) := by decide +kernel
theorem dX12_asks_175 : decode cX12_asks 175 = .ok (.iinc 4 1, 3) := by decide +kernel
theorem dX12_asks_178 : decode cX12_asks 178 = .ok (.goto (-165), 3) := by decide +kernel
theorem dX12_asks_181 : decode cX12_asks 181 = .ok (.iload_n 2, 1) := by decide +kernel
theorem dX12_asks_182 : decode cX12_asks 182 = .ok (.ireturn, 1) := by decide +kernel
theorem dX12_odds_0 : decode cX12_odds 0 = .ok (.iload_n 1, 1) := by decide +kernel
theorem dX12_odds_1 : decode cX12_odds 1 = .ok (.i2l, 1) := by decide +kernel
theorem dX12_odds_2 : decode cX12_odds 2 = .ok (.lconst 0, 1) := by decide +kernel
theorem dX12_odds_3 : decode cX12_odds 3 = .ok (.ldc2_w 218, 3) := by decide +kernel
theorem dX12_odds_6 : decode cX12_odds 6 = .ok (.invokestatic 34, 3) := by decide +kernel
theorem dX12_odds_9 : decode cX12_odds 9 = .ok (.ifCond .ne 8, 3) := by decide +kernel
theorem dX12_odds_12 : decode cX12_odds 12 = .ok (.aload_n 0, 1) := by decide +kernel
theorem dX12_odds_13 : decode cX12_odds 13 = .ok (.invokevirtual 44, 3) := by decide +kernel
theorem dX12_odds_16 : decode cX12_odds 16 = .ok (.ireturn, 1) := by decide +kernel
theorem dX12_odds_17 : decode cX12_odds 17 = .ok (.iconst 0, 1) := by decide +kernel
theorem dX12_odds_18 : decode cX12_odds 18 = .ok (.istore_n 2, 1) := by decide +kernel
theorem dX12_odds_19 : decode cX12_odds 19 = .ok (.iload_n 1, 1) := by decide +kernel
theorem dX12_odds_20 : decode cX12_odds 20 = .ok (.istore_n 3, 1) := by decide +kernel
theorem dX12_odds_21 : decode cX12_odds 21 = .ok (.iload_n 3, 1) := by decide +kernel
theorem dX12_odds_22 : decode cX12_odds 22 = .ok (.iload_n 1, 1) := by decide +kernel
theorem dX12_odds_23 : decode cX12_odds 23 = .ok (.bipush 10, 2) := by decide +kernel
theorem dX12_odds_25 : decode cX12_odds 25 = .ok (.iadd, 1) := by decide +kernel
theorem dX12_odds_26 : decode cX12_odds 26 = .ok (.if_icmp .ge 31, 3) := by decide +kernel
theorem dX12_odds_29 : decode cX12_odds 29 = .ok (.iload_n 2, 1) := by decide +kernel
theorem dX12_odds_30 : decode cX12_odds 30 = .ok (.aload_n 0, 1) := by decide +kernel
theorem dX12_odds_31 : decode cX12_odds 31 = .ok (.aload_n 0, 1) := by decide +kernel
theorem dX12_odds_32 : decode cX12_odds 32 = .ok (.getfield 7, 3) := by decide +kernel
theorem dX12_odds_35 : decode cX12_odds 35 = .ok (.iconst 5, 1) := by decide +kernel
theorem dX12_odds_36 : decode cX12_odds 36 = .ok (.iaload, 1) := by decide +kernel
theorem dX12_odds_37 : decode cX12_odds 37 = .ok (.iload_n 3, 1) := by decide +kernel
theorem dX12_odds_38 : decode cX12_odds 38 = .ok (.invokevirtual 166, 3) := by decide +kernel
theorem dX12_odds_41 : decode cX12_odds 41 = .ok (.ifCond .eq 7, 3) := by decide +kernel
theorem dX12_odds_44 : decode cX12_odds 44 = .ok (.iconst 1, 1) := by decide +kernel
theorem dX12_odds_45 : decode cX12_odds 45 = .ok (.goto 4, 3) := by decide +kernel
theorem dX12_odds_48 : decode cX12_odds 48 = .ok (.iconst 0, 1) := by decide +kernel
theorem dX12_odds_49 : decode cX12_odds 49 = .ok (.iadd, 1) := by decide +kernel
theorem dX12_odds_50 : decode cX12_odds 50 = .ok (.istore_n 2, 1) := by decide +kernel
theorem dX12_odds_51 : decode cX12_odds 51 = .ok (.iinc 3 1, 3) := by decide +kernel
theorem dX12_odds_54 : decode cX12_odds 54 = .ok (.goto (-33), 3) := by decide +kernel
theorem dX12_odds_57 : decode cX12_odds 57 = .ok (.aload_n 0, 1) := by decide +kernel
theorem dX12_odds_58 : decode cX12_odds 58 = .ok (.iload_n 2, 1) := by decide +kernel
theorem dX12_odds_59 : decode cX12_odds 59 = .ok (.i2l, 1) := by decide +kernel
theorem dX12_odds_60 : decode cX12_odds 60 = .ok (.ldc2_w 220, 3) := by decide +kernel
theorem dX12_odds_63 : decode cX12_odds 63 = .ok (.invokevirtual 186, 3) := by decide +kernel
theorem dX12_odds_66 : decode cX12_odds 66 = .ok (.ireturn, 1) := by decide +kernel
theorem dX12_safe_0 : decode cX12_safe 0 = .ok (.iconst (-1), 1) := by decide +kernel
theorem dX12_safe_1 : decode cX12_safe 1 = .ok (.istore_n 1, 1) := by decide +kernel
theorem dX12_safe_2 : decode cX12_safe 2 = .ok (.iconst 0, 1) := by decide +kernel
theorem dX12_safe_3 : decode cX12_safe 3 = .ok (.istore_n 2, 1) := by decide +kernel
theorem dX12_safe_4 : decode cX12_safe 4 = .ok (.iload_n 2, 1) := by decide +kernel
theorem dX12_safe_5 : decode cX12_safe 5 = .ok (.sipush 200, 3) := by decide +kernel
theorem dX12_safe_8 : decode cX12_safe 8 = .ok (.if_icmp .gt 29, 3) := by decide +kernel
theorem dX12_safe_11 : decode cX12_safe 11 = .ok (.aload_n 0, 1) := by decide +kernel
theorem dX12_safe_12 : decode cX12_safe 12 = .ok (.aload_n 0, 1) := by decide +kernel
theorem dX12_safe_13 : decode cX12_safe 13 = .ok (.getfield 7, 3) := by decide +kernel
theorem dX12_safe_16 : decode cX12_safe 16 = .ok (.iconst 5, 1) := by decide +kernel
theorem dX12_safe_17 : decode cX12_safe 17 = .ok (.iaload, 1) := by decide +kernel
theorem dX12_safe_18 : decode cX12_safe 18 = .ok (.iload_n 2, 1) := by decide +kernel
theorem dX12_safe_19 : decode cX12_safe 19 = .ok (.invokevirtual 166, 3) := by decide +kernel
theorem dX12_safe_22 : decode cX12_safe 22 = .ok (.ifCond .eq 7, 3) := by decide +kernel
theorem dX12_safe_25 : decode cX12_safe 25 = .ok (.iload_n 2, 1) := by decide +kernel
theorem dX12_safe_26 : decode cX12_safe 26 = .ok (.goto 4, 3) := by decide +kernel
theorem dX12_safe_29 : decode cX12_safe 29 = .ok (.iload_n 1, 1) := by decide +kernel
theorem dX12_safe_30 : decode cX12_safe 30 = .ok (.istore_n 1, 1) := by decide +kernel
theorem dX12_safe_31 : decode cX12_safe 31 = .ok (.iinc 2 1, 3) := by decide +kernel
theorem dX12_safe_34 : decode cX12_safe 34 = .ok (.goto (-30), 3) := by decide +kernel
theorem dX12_safe_37 : decode cX12_safe 37 = .ok (.iload_n 1, 1) := by decide +kernel
theorem dX12_safe_38 : decode cX12_safe 38 = .ok (.ireturn, 1) := by decide +kernel
theorem dX12_voyages_0 : decode cX12_voyages 0 = .ok (.iload_n 1, 1) := by decide +kernel
theorem dX12_voyages_1 : decode cX12_voyages 1 = .ok (.i2l, 1) := by decide +kernel
theorem dX12_voyages_2 : decode cX12_voyages 2 = .ok (.lconst 0, 1) := by decide +kernel
theorem dX12_voyages_3 : decode cX12_voyages 3 = .ok (.ldc2_w 222, 3) := by decide +kernel
theorem dX12_voyages_6 : decode cX12_voyages 6 = .ok (.invokestatic 34, 3) := by decide +kernel
theorem dX12_voyages_9 : decode cX12_voyages 9 = .ok (.ifCond .eq 15, 3) := by decide +kernel
theorem dX12_voyages_12 : decode cX12_voyages 12 = .ok (.iload_n 2, 1) := by decide +kernel
theorem dX12_voyages_13 : decode cX12_voyages 13 = .ok (.i2l, 1) := by decide +kernel
theorem dX12_voyages_14 : decode cX12_voyages 14 = .ok (.lconst 0, 1) := by decide +kernel
theorem dX12_voyages_15 : decode cX12_voyages 15 = .ok (.ldc2_w 224, 3) := by decide +kernel
theorem dX12_voyages_18 : decode cX12_voyages 18 = .ok (.invokestatic 34, 3) := by decide +kernel
theorem dX12_voyages_21 : decode cX12_voyages 21 = .ok (.ifCond .ne 8, 3) := by decide +kernel
theorem dX12_voyages_24 : decode cX12_voyages 24 = .ok (.aload_n 0, 1) := by decide +kernel
theorem dX12_voyages_25 : decode cX12_voyages 25 = .ok (.invokevirtual 44, 3) := by decide +kernel
theorem dX12_voyages_28 : decode cX12_voyages 28 = .ok (.ireturn, 1) := by decide +kernel
theorem dX12_voyages_29 : decode cX12_voyages 29 = .ok (.iload_n 1, 1) := by decide +kernel
theorem dX12_voyages_30 : decode cX12_voyages 30 = .ok (.i2l, 1) := by decide +kernel
theorem dX12_voyages_31 : decode cX12_voyages 31 = .ok (.lstore_n 3, 1) := by decide +kernel
theorem dX12_voyages_32 : decode cX12_voyages 32 = .ok (.aload_n 0, 1) := by decide +kernel
theorem dX12_voyages_33 : decode cX12_voyages 33 = .ok (.getfield 7, 3) := by decide +kernel
theorem dX12_voyages_36 : decode cX12_voyages 36 = .ok (.iconst 5, 1) := by decide +kernel
theorem dX12_voyages_37 : decode cX12_voyages 37 = .ok (.iaload, 1) := by decide +kernel
theorem dX12_voyages_38 : decode cX12_voyages 38 = .ok (.istore 5, 2) := by decide +kernel
theorem dX12_voyages_40 : decode cX12_voyages 40 = .ok (.iconst 0, 1) := by decide +kernel
theorem dX12_voyages_41 : decode cX12_voyages 41 = .ok (.istore 6, 2) := by decide +kernel
theorem dX12_voyages_43 : decode cX12_voyages 43 = .ok (.iload 6, 2) := by decide +kernel
theorem dX12_voyages_45 : decode cX12_voyages 45 = .ok (.iload_n 2, 1) := by decide +kernel
theorem dX12_voyages_46 : decode cX12_voyages 46 = .ok (.if_icmp .ge 62, 3) := by decide +kernel
theorem dX12_voyages_49 : decode cX12_voyages 49 = .ok (.lload_n 3, 1) := by decide +kernel
theorem dX12_voyages_50 : decode cX12_voyages 50 = .ok (.ldc2_w 226, 3) := by decide +kernel
theorem dX12_voyages_53 : decode cX12_voyages 53 = .ok (.lmul, 1) := by decide +kernel
theorem dX12_voyages_54 : decode cX12_voyages 54 = .ok (.ldc2_w 228, 3) := by decide +kernel
theorem dX12_voyages_57 : decode cX12_voyages 57 = .ok (.ladd, 1) := by decide +kernel
theorem dX12_voyages_58 : decode cX12_voyages 58 = .ok (.ldc2_w 230, 3) := by decide +kernel
theorem dX12_voyages_61 : decode cX12_voyages 61 = .ok (.lrem, 1) := by decide +kernel
theorem dX12_voyages_62 : decode cX12_voyages 62 = .ok (.lstore_n 3, 1) := by decide +kernel
theorem dX12_voyages_63 : decode cX12_voyages 63 = .ok (.aload_n 0, 1) := by decide +kernel
theorem dX12_voyages_64 : decode cX12_voyages 64 = .ok (.iload 5, 2) := by decide +kernel
theorem dX12_voyages_66 : decode cX12_voyages 66 = .ok (.lload_n 3, 1) := by decide +kernel
theorem dX12_voyages_67 : decode cX12_voyages 67 = .ok (.ldc2_w 232, 3) := by decide +kernel
theorem dX12_voyages_70 : decode cX12_voyages 70 = .ok (.ldiv, 1) := by decide +kernel
theorem dX12_voyages_71 : decode cX12_voyages 71 = .ok (.ldc2_w 234, 3) := by decide +kernel
theorem dX12_voyages_74 : decode cX12_voyages 74 = .ok (.lrem, 1) := by decide +kernel
theorem dX12_voyages_75 : decode cX12_voyages 75 = .ok (.l2i, 1) := by decide +kernel
theorem dX12_voyages_76 : decode cX12_voyages 76 = .ok (.iconst (-1), 1) := by decide +kernel
theorem dX12_voyages_77 : decode cX12_voyages 77 = .ok (.iconst 0, 1) := by decide +kernel
theorem dX12_voyages_78 : decode cX12_voyages 78 = .ok (.invokevirtual 208, 3) := by decide +kernel
theorem dX12_voyages_81 : decode cX12_voyages 81 = .ok (.aload_n 0, 1) := by decide +kernel
theorem dX12_voyages_82 : decode cX12_voyages 82 = .ok (.getfield 194, 3) := by decide +kernel
theorem dX12_voyages_85 : decode cX12_voyages 85 = .ok (.iconst (-1), 1) := by decide +kernel
theorem dX12_voyages_86 : decode cX12_voyages 86 = .ok (.if_icmp .ne 5, 3) := by decide +kernel
theorem dX12_voyages_89 : decode cX12_voyages 89 = .ok (.iconst 0, 1) := by decide +kernel
theorem dX12_voyages_90 : decode cX12_voyages 90 = .ok (.ireturn, 1) := by decide +kernel
theorem dX12_voyages_91 : decode cX12_voyages 91 = .ok (.iload 5, 2) := by decide +kernel
theorem dX12_voyages_93 : decode cX12_voyages 93 = .ok (.aload_n 0, 1) := by decide +kernel
theorem dX12_voyages_94 : decode cX12_voyages 94 = .ok (.getfield 194, 3) := by decide +kernel
theorem dX12_voyages_97 : decode cX12_voyages 97 = .ok (.iconst (-1), 1) := by decide +kernel
theorem dX12_voyages_98 : decode cX12_voyages 98 = .ok (.ixor, 1) := by decide +kernel
theorem dX12_voyages_99 : decode cX12_voyages 99 = .ok (.iand, 1) := by decide +kernel
theorem dX12_voyages_100 : decode cX12_voyages 100 = .ok (.istore 5, 2) := by decide +kernel
theorem dX12_voyages_102 : decode cX12_voyages 102 = .ok (.iinc 6 1, 3) := by decide +kernel
theorem dX12_voyages_105 : decode cX12_voyages 105 = .ok (.goto (-62), 3) := by decide +kernel
theorem dX12_voyages_108 : decode cX12_voyages 108 = .ok (.aload_n 0, 1) := by decide +kernel
theorem dX12_voyages_109 : decode cX12_voyages 109 = .ok (.iload 5, 2) := by decide +kernel
theorem dX12_voyages_111 : decode cX12_voyages 111 = .ok (.invokevirtual 175, 3) := by decide +kernel
theorem dX12_voyages_114 : decode cX12_voyages 114 = .ok (.ireturn, 1) := by decide +kernel
theorem dX12_part_0 : decode cX12_part 0 = .ok (.iload_n 1, 1) := by decide +kernel
theorem dX12_part_1 : decode cX12_part 1 = .ok (.ifCond .ne 10, 3) := by decide +kernel
theorem dX12_part_4 : decode cX12_part 4 = .ok (.aload_n 0, 1) := by decide +kernel
theorem dX12_part_5 : decode cX12_part 5 = .ok (.getfield 178, 3) := by decide +kernel
theorem dX12_part_8 : decode cX12_part 8 = .ok (.goto 20, 3) := by decide +kernel
theorem dX12_part_11 : decode cX12_part 11 = .ok (.iload_n 1, 1) := by decide +kernel
theorem dX12_part_12 : decode cX12_part 12 = .ok (.iconst 1, 1) := by decide +kernel
theorem dX12_part_13 : decode cX12_part 13 = .ok (.if_icmp .ne 10, 3) := by decide +kernel
theorem dX12_part_16 : decode cX12_part 16 = .ok (.aload_n 0, 1) := by decide +kernel
theorem dX12_part_17 : decode cX12_part 17 = .ok (.getfield 23, 3) := by decide +kernel
theorem dX12_part_20 : decode cX12_part 20 = .ok (.goto 8, 3) := by decide +kernel
theorem dX12_part_23 : decode cX12_part 23 = .ok (.aload_n 0, 1) := by decide +kernel
theorem dX12_part_24 : decode cX12_part 24 = .ok (.invokevirtual 44, 3) := by decide +kernel
theorem dX12_part_27 : decode cX12_part 27 = .ok (.i2l, 1) := by decide +kernel
theorem dX12_part_28 : decode cX12_part 28 = .ok (.lreturn, 1) := by decide +kernel
theorem dX12_image_0 : decode cX12_image 0 = .ok (.iload_n 1, 1) := by decide +kernel
theorem dX12_image_1 : decode cX12_image 1 = .ok (.i2l, 1) := by decide +kernel
theorem dX12_image_2 : decode cX12_image 2 = .ok (.lconst 0, 1) := by decide +kernel
theorem dX12_image_3 : decode cX12_image 3 = .ok (.lconst 1, 1) := by decide +kernel
theorem dX12_image_4 : decode cX12_image 4 = .ok (.invokestatic 34, 3) := by decide +kernel
theorem dX12_image_7 : decode cX12_image 7 = .ok (.ifCond .ne 8, 3) := by decide +kernel
theorem dX12_image_10 : decode cX12_image 10 = .ok (.aload_n 0, 1) := by decide +kernel
theorem dX12_image_11 : decode cX12_image 11 = .ok (.invokevirtual 44, 3) := by decide +kernel
theorem dX12_image_14 : decode cX12_image 14 = .ok (.ireturn, 1) := by decide +kernel
theorem dX12_image_15 : decode cX12_image 15 = .ok (.aload_n 0, 1) := by decide +kernel
theorem dX12_image_16 : decode cX12_image 16 = .ok (.iconst 0, 1) := by decide +kernel
theorem dX12_image_17 : decode cX12_image 17 = .ok (.bipush 80, 2) := by decide +kernel
theorem dX12_image_19 : decode cX12_image 19 = .ok (.iconst 1, 1) := by decide +kernel
theorem dX12_image_20 : decode cX12_image 20 = .ok (.iload_n 1, 1) := by decide +kernel
theorem dX12_image_21 : decode cX12_image 21 = .ok (.iadd, 1) := by decide +kernel
theorem dX12_image_22 : decode cX12_image 22 = .ok (.imul, 1) := by decide +kernel
theorem dX12_image_23 : decode cX12_image 23 = .ok (.invokevirtual 135, 3) := by decide +kernel
theorem dX12_image_26 : decode cX12_image 26 = .ok (.aload_n 0, 1) := by decide +kernel
theorem dX12_image_27 : decode cX12_image 27 = .ok (.getfield 13, 3) := by decide +kernel
theorem dX12_image_30 : decode cX12_image 30 = .ok (.iload_n 1, 1) := by decide +kernel
theorem dX12_image_31 : decode cX12_image 31 = .ok (.iconst 1, 1) := by decide +kernel
theorem dX12_image_32 : decode cX12_image 32 = .ok (.bastore, 1) := by decide +kernel
theorem dX12_image_33 : decode cX12_image 33 = .ok (.iconst 1, 1) := by decide +kernel
theorem dX12_image_34 : decode cX12_image 34 = .ok (.ireturn, 1) := by decide +kernel
theorem dX12_from_0 : decode cX12_from 0 = .ok (.iload_n 1, 1) := by decide +kernel
theorem dX12_from_1 : decode cX12_from 1 = .ok (.i2l, 1) := by decide +kernel
theorem dX12_from_2 : decode cX12_from 2 = .ok (.lconst 0, 1) := by decide +kernel
theorem dX12_from_3 : decode cX12_from 3 = .ok (.lconst 1, 1) := by decide +kernel
theorem dX12_from_4 : decode cX12_from 4 = .ok (.invokestatic 34, 3) := by decide +kernel
theorem dX12_from_7 : decode cX12_from 7 = .ok (.ifCond .ne 8, 3) := by decide +kernel
theorem dX12_from_10 : decode cX12_from 10 = .ok (.aload_n 0, 1) := by decide +kernel
theorem dX12_from_11 : decode cX12_from 11 = .ok (.invokevirtual 44, 3) := by decide +kernel
theorem dX12_from_14 : decode cX12_from 14 = .ok (.ireturn, 1) := by decide +kernel
theorem dX12_from_15 : decode cX12_from 15 = .ok (.aload_n 0, 1) := by decide +kernel
theorem dX12_from_16 : decode cX12_from 16 = .ok (.getfield 13, 3) := by decide +kernel
theorem dX12_from_19 : decode cX12_from 19 = .ok (.iload_n 1, 1) := by decide +kernel
theorem dX12_from_20 : decode cX12_from 20 = .ok (.baload, 1) := by decide +kernel
theorem dX12_from_21 : decode cX12_from 21 = .ok (.ifCond .ne 8, 3) := by decide +kernel
theorem dX12_from_24 : decode cX12_from 24 = .ok (.aload_n 0, 1) := by decide +kernel
theorem dX12_from_25 : decode cX12_from 25 = .ok (.invokevirtual 152, 3) := by decide +kernel
theorem dX12_from_28 : decode cX12_from 28 = .ok (.ireturn, 1) := by decide +kernel
theorem dX12_from_29 : decode cX12_from 29 = .ok (.aload_n 0, 1) := by decide +kernel
theorem dX12_from_30 : decode cX12_from 30 = .ok (.bipush 80, 2) := by decide +kernel
theorem dX12_from_32 : decode cX12_from 32 = .ok (.iconst 1, 1) := by decide +kernel
theorem dX12_from_33 : decode cX12_from 33 = .ok (.iload_n 1, 1) := by decide +kernel
theorem dX12_from_34 : decode cX12_from 34 = .ok (.iadd, 1) := by decide +kernel
theorem dX12_from_35 : decode cX12_from 35 = .ok (.imul, 1) := by decide +kernel
theorem dX12_from_36 : decode cX12_from 36 = .ok (.iconst 0, 1) := by decide +kernel
theorem dX12_from_37 : decode cX12_from 37 = .ok (.invokevirtual 135, 3) := by decide +kernel
theorem dX12_from_40 : decode cX12_from 40 = .ok (.iconst 1, 1) := by decide +kernel
theorem dX12_from_41 : decode cX12_from 41 = .ok (.ireturn, 1) := by decide +kernel
theorem dX12_status_0 : decode cX12_status 0 = .ok (.iload_n 1, 1) := by decide +kernel
theorem dX12_status_1 : decode cX12_status 1 = .ok (.i2l, 1) := by decide +kernel
theorem dX12_status_2 : decode cX12_status 2 = .ok (.lconst 0, 1) := by decide +kernel
theorem dX12_status_3 : decode cX12_status 3 = .ok (.ldc2_w 54, 3) := by decide +kernel
theorem dX12_status_6 : decode cX12_status 6 = .ok (.invokestatic 34, 3) := by decide +kernel
theorem dX12_status_9 : decode cX12_status 9 = .ok (.ifCond .eq 12, 3) := by decide +kernel
theorem dX12_status_12 : decode cX12_status 12 = .ok (.aload_n 0, 1) := by decide +kernel
theorem dX12_status_13 : decode cX12_status 13 = .ok (.getfield 20, 3) := by decide +kernel
theorem dX12_status_16 : decode cX12_status 16 = .ok (.iload_n 1, 1) := by decide +kernel
theorem dX12_status_17 : decode cX12_status 17 = .ok (.iaload, 1) := by decide +kernel
theorem dX12_status_18 : decode cX12_status 18 = .ok (.goto 8, 3) := by decide +kernel
theorem dX12_status_21 : decode cX12_status 21 = .ok (.aload_n 0, 1) := by decide +kernel
theorem dX12_status_22 : decode cX12_status 22 = .ok (.iconst (-1), 1) := by decide +kernel
theorem dX12_status_23 : decode cX12_status 23 = .ok (.invokevirtual 205, 3) := by decide +kernel
theorem dX12_status_26 : decode cX12_status 26 = .ok (.ireturn, 1) := by decide +kernel
theorem dX12_countOf_0 : decode cX12_countOf 0 = .ok (.iload_n 1, 1) := by decide +kernel
theorem dX12_countOf_1 : decode cX12_countOf 1 = .ok (.tableswitch 84 0 5 #[39, 46, 56, 63, 70, 77], 39) := by decide +kernel
theorem dX12_countOf_40 : decode cX12_countOf 40 = .ok (.aload_n 0, 1) := by decide +kernel
theorem dX12_countOf_41 : decode cX12_countOf 41 = .ok (.getfield 7, 3) := by decide +kernel
theorem dX12_countOf_44 : decode cX12_countOf 44 = .ok (.iconst 0, 1) := by decide +kernel
theorem dX12_countOf_45 : decode cX12_countOf 45 = .ok (.iaload, 1) := by decide +kernel
theorem dX12_countOf_46 : decode cX12_countOf 46 = .ok (.ireturn, 1) := by decide +kernel
theorem dX12_countOf_47 : decode cX12_countOf 47 = .ok (.aload_n 0, 1) := by decide +kernel
theorem dX12_countOf_48 : decode cX12_countOf 48 = .ok (.getfield 7, 3) := by decide +kernel
theorem dX12_countOf_51 : decode cX12_countOf 51 = .ok (.iconst 5, 1) := by decide +kernel
theorem dX12_countOf_52 : decode cX12_countOf 52 = .ok (.iaload, 1) := by decide +kernel
theorem dX12_countOf_53 : decode cX12_countOf 53 = .ok (.invokestatic 155, 3) := by decide +kernel
theorem dX12_countOf_56 : decode cX12_countOf 56 = .ok (.ireturn, 1) := by decide +kernel
theorem dX12_countOf_57 : decode cX12_countOf 57 = .ok (.aload_n 0, 1) := by decide +kernel
theorem dX12_countOf_58 : decode cX12_countOf 58 = .ok (.getfield 7, 3) := by decide +kernel
theorem dX12_countOf_61 : decode cX12_countOf 61 = .ok (.iconst 1, 1) := by decide +kernel
theorem dX12_countOf_62 : decode cX12_countOf 62 = .ok (.iaload, 1) := by decide +kernel
theorem dX12_countOf_63 : decode cX12_countOf 63 = .ok (.ireturn, 1) := by decide +kernel
theorem dX12_countOf_64 : decode cX12_countOf 64 = .ok (.aload_n 0, 1) := by decide +kernel
theorem dX12_countOf_65 : decode cX12_countOf 65 = .ok (.getfield 7, 3) := by decide +kernel
theorem dX12_countOf_68 : decode cX12_countOf 68 = .ok (.iconst 2, 1) := by decide +kernel
theorem dX12_countOf_69 : decode cX12_countOf 69 = .ok (.iaload, 1) := by decide +kernel
theorem dX12_countOf_70 : decode cX12_countOf 70 = .ok (.ireturn, 1) := by decide +kernel
theorem dX12_countOf_71 : decode cX12_countOf 71 = .ok (.aload_n 0, 1) := by decide +kernel
theorem dX12_countOf_72 : decode cX12_countOf 72 = .ok (.getfield 7, 3) := by decide +kernel
theorem dX12_countOf_75 : decode cX12_countOf 75 = .ok (.iconst 3, 1) := by decide +kernel
theorem dX12_countOf_76 : decode cX12_countOf 76 = .ok (.iaload, 1) := by decide +kernel
theorem dX12_countOf_77 : decode cX12_countOf 77 = .ok (.ireturn, 1) := by decide +kernel
theorem dX12_countOf_78 : decode cX12_countOf 78 = .ok (.aload_n 0, 1) := by decide +kernel
theorem dX12_countOf_79 : decode cX12_countOf 79 = .ok (.getfield 7, 3) := by decide +kernel
theorem dX12_countOf_82 : decode cX12_countOf 82 = .ok (.iconst 4, 1) := by decide +kernel
theorem dX12_countOf_83 : decode cX12_countOf 83 = .ok (.iaload, 1) := by decide +kernel
theorem dX12_countOf_84 : decode cX12_countOf 84 = .ok (.ireturn, 1) := by decide +kernel
theorem dX12_countOf_85 : decode cX12_countOf 85 = .ok (.aload_n 0, 1) := by decide +kernel
theorem dX12_countOf_86 : decode cX12_countOf 86 = .ok (.getfield 80, 3) := by decide +kernel
theorem dX12_countOf_89 : decode cX12_countOf 89 = .ok (.ireturn, 1) := by decide +kernel
theorem dX12_count_0 : decode cX12_count 0 = .ok (.iload_n 1, 1) := by decide +kernel
theorem dX12_count_1 : decode cX12_count 1 = .ok (.i2l, 1) := by decide +kernel
theorem dX12_count_2 : decode cX12_count 2 = .ok (.lconst 0, 1) := by decide +kernel
theorem dX12_count_3 : decode cX12_count 3 = .ok (.ldc2_w 236, 3) := by decide +kernel
theorem dX12_count_6 : decode cX12_count 6 = .ok (.invokestatic 34, 3) := by decide +kernel
theorem dX12_count_9 : decode cX12_count 9 = .ok (.ifCond .eq 11, 3) := by decide +kernel
theorem dX12_count_12 : decode cX12_count 12 = .ok (.aload_n 0, 1) := by decide +kernel
theorem dX12_count_13 : decode cX12_count 13 = .ok (.iload_n 1, 1) := by decide +kernel
theorem dX12_count_14 : decode cX12_count 14 = .ok (.invokevirtual 238, 3) := by decide +kernel
theorem dX12_count_17 : decode cX12_count 17 = .ok (.goto 7, 3) := by decide +kernel
theorem dX12_count_20 : decode cX12_count 20 = .ok (.aload_n 0, 1) := by decide +kernel
theorem dX12_count_21 : decode cX12_count 21 = .ok (.invokevirtual 44, 3) := by decide +kernel
theorem dX12_count_24 : decode cX12_count 24 = .ok (.ireturn, 1) := by decide +kernel
theorem dX12_mix_0 : decode cX12_mix 0 = .ok (.aload_n 0, 1) := by decide +kernel
theorem dX12_mix_1 : decode cX12_mix 1 = .ok (.ldc2_w 241, 3) := by decide +kernel
theorem dX12_mix_4 : decode cX12_mix 4 = .ok (.aload_n 0, 1) := by decide +kernel
theorem dX12_mix_5 : decode cX12_mix 5 = .ok (.getfield 243, 3) := by decide +kernel
theorem dX12_mix_8 : decode cX12_mix 8 = .ok (.lmul, 1) := by decide +kernel
theorem dX12_mix_9 : decode cX12_mix 9 = .ok (.lload_n 1, 1) := by decide +kernel
theorem dX12_mix_10 : decode cX12_mix 10 = .ok (.ladd, 1) := by decide +kernel
theorem dX12_mix_11 : decode cX12_mix 11 = .ok (.putfield 243, 3) := by decide +kernel
theorem dX12_mix_14 : decode cX12_mix 14 = .ok (.return_, 1) := by decide +kernel
theorem dX12_digest_0 : decode cX12_digest 0 = .ok (.aload_n 0, 1) := by decide +kernel
theorem dX12_digest_1 : decode cX12_digest 1 = .ok (.ldc2_w 246, 3) := by decide +kernel
theorem dX12_digest_4 : decode cX12_digest 4 = .ok (.putfield 243, 3) := by decide +kernel
theorem dX12_digest_7 : decode cX12_digest 7 = .ok (.iconst 0, 1) := by decide +kernel
theorem dX12_digest_8 : decode cX12_digest 8 = .ok (.istore_n 1, 1) := by decide +kernel
theorem dX12_digest_9 : decode cX12_digest 9 = .ok (.iload_n 1, 1) := by decide +kernel
theorem dX12_digest_10 : decode cX12_digest 10 = .ok (.bipush 7, 2) := by decide +kernel
theorem dX12_digest_12 : decode cX12_digest 12 = .ok (.if_icmp .ge 19, 3) := by decide +kernel
theorem dX12_digest_15 : decode cX12_digest 15 = .ok (.aload_n 0, 1) := by decide +kernel
theorem dX12_digest_16 : decode cX12_digest 16 = .ok (.aload_n 0, 1) := by decide +kernel
theorem dX12_digest_17 : decode cX12_digest 17 = .ok (.iload_n 1, 1) := by decide +kernel
theorem dX12_digest_18 : decode cX12_digest 18 = .ok (.invokevirtual 238, 3) := by decide +kernel
theorem dX12_digest_21 : decode cX12_digest 21 = .ok (.i2l, 1) := by decide +kernel
theorem dX12_digest_22 : decode cX12_digest 22 = .ok (.invokevirtual 248, 3) := by decide +kernel
theorem dX12_digest_25 : decode cX12_digest 25 = .ok (.iinc 1 1, 3) := by decide +kernel
theorem dX12_digest_28 : decode cX12_digest 28 = .ok (.goto (-19), 3) := by decide +kernel
theorem dX12_digest_31 : decode cX12_digest 31 = .ok (.iconst 0, 1) := by decide +kernel
theorem dX12_digest_32 : decode cX12_digest 32 = .ok (.istore_n 1, 1) := by decide +kernel
theorem dX12_digest_33 : decode cX12_digest 33 = .ok (.iload_n 1, 1) := by decide +kernel
theorem dX12_digest_34 : decode cX12_digest 34 = .ok (.aload_n 0, 1) := by decide +kernel
theorem dX12_digest_35 : decode cX12_digest 35 = .ok (.getfield 7, 3) := by decide +kernel
theorem dX12_digest_38 : decode cX12_digest 38 = .ok (.iconst 0, 1) := by decide +kernel
theorem dX12_digest_39 : decode cX12_digest 39 = .ok (.iaload, 1) := by decide +kernel
theorem dX12_digest_40 : decode cX12_digest 40 = .ok (.if_icmp .ge 57, 3) := by decide +kernel
theorem dX12_digest_43 : decode cX12_digest 43 = .ok (.iconst 0, 1) := by decide +kernel
theorem dX12_digest_44 : decode cX12_digest 44 = .ok (.istore_n 2, 1) := by decide +kernel
theorem dX12_digest_45 : decode cX12_digest 45 = .ok (.iload_n 2, 1) := by decide +kernel
theorem dX12_digest_46 : decode cX12_digest 46 = .ok (.bipush 6, 2) := by decide +kernel
theorem dX12_digest_48 : decode cX12_digest 48 = .ok (.if_icmp .ge 28, 3) := by decide +kernel
theorem dX12_digest_51 : decode cX12_digest 51 = .ok (.aload_n 0, 1) := by decide +kernel
theorem dX12_digest_52 : decode cX12_digest 52 = .ok (.aload_n 0, 1) := by decide +kernel
theorem dX12_digest_53 : decode cX12_digest 53 = .ok (.getfield 7, 3) := by decide +kernel
theorem dX12_digest_56 : decode cX12_digest 56 = .ok (.bipush 6, 2) := by decide +kernel
theorem dX12_digest_58 : decode cX12_digest 58 = .ok (.bipush 8, 2) := by decide +kernel
theorem dX12_digest_60 : decode cX12_digest 60 = .ok (.iload_n 2, 1) := by decide +kernel
theorem dX12_digest_61 : decode cX12_digest 61 = .ok (.imul, 1) := by decide +kernel
theorem dX12_digest_62 : decode cX12_digest 62 = .ok (.iadd, 1) := by decide +kernel
theorem dX12_digest_63 : decode cX12_digest 63 = .ok (.iload_n 1, 1) := by decide +kernel
theorem dX12_digest_64 : decode cX12_digest 64 = .ok (.iadd, 1) := by decide +kernel
theorem dX12_digest_65 : decode cX12_digest 65 = .ok (.iaload, 1) := by decide +kernel
theorem dX12_digest_66 : decode cX12_digest 66 = .ok (.i2l, 1) := by decide +kernel
theorem dX12_digest_67 : decode cX12_digest 67 = .ok (.invokevirtual 248, 3) := by decide +kernel
theorem dX12_digest_70 : decode cX12_digest 70 = .ok (.iinc 2 1, 3) := by decide +kernel
theorem dX12_digest_73 : decode cX12_digest 73 = .ok (.goto (-28), 3) := by decide +kernel
theorem dX12_digest_76 : decode cX12_digest 76 = .ok (.aload_n 0, 1) := by decide +kernel
theorem dX12_digest_77 : decode cX12_digest 77 = .ok (.aload_n 0, 1) := by decide +kernel
theorem dX12_digest_78 : decode cX12_digest 78 = .ok (.getfield 7, 3) := by decide +kernel
theorem dX12_digest_81 : decode cX12_digest 81 = .ok (.iconst 5, 1) := by decide +kernel
theorem dX12_digest_82 : decode cX12_digest 82 = .ok (.iaload, 1) := by decide +kernel
theorem dX12_digest_83 : decode cX12_digest 83 = .ok (.iload_n 1, 1) := by decide +kernel
theorem dX12_digest_84 : decode cX12_digest 84 = .ok (.ishr, 1) := by decide +kernel
theorem dX12_digest_85 : decode cX12_digest 85 = .ok (.iconst 1, 1) := by decide +kernel
theorem dX12_digest_86 : decode cX12_digest 86 = .ok (.iand, 1) := by decide +kernel
theorem dX12_digest_87 : decode cX12_digest 87 = .ok (.i2l, 1) := by decide +kernel
theorem dX12_digest_88 : decode cX12_digest 88 = .ok (.invokevirtual 248, 3) := by decide +kernel
theorem dX12_digest_91 : decode cX12_digest 91 = .ok (.iinc 1 1, 3) := by decide +kernel
theorem dX12_digest_94 : decode cX12_digest 94 = .ok (.goto (-61), 3) := by decide +kernel
theorem dX12_digest_97 : decode cX12_digest 97 = .ok (.iconst 0, 1) := by decide +kernel
theorem dX12_digest_98 : decode cX12_digest 98 = .ok (.istore_n 1, 1) := by decide +kernel
theorem dX12_digest_99 : decode cX12_digest 99 = .ok (.iload_n 1, 1) := by decide +kernel
theorem dX12_digest_100 : decode cX12_digest 100 = .ok (.iconst 3, 1) := by decide +kernel
theorem dX12_digest_101 : decode cX12_digest 101 = .ok (.aload_n 0, 1) := by decide +kernel
theorem dX12_digest_102 : decode cX12_digest 102 = .ok (.getfield 7, 3) := by decide +kernel
theorem dX12_digest_105 : decode cX12_digest 105 = .ok (.iconst 3, 1) := by decide +kernel
theorem dX12_digest_106 : decode cX12_digest 106 = .ok (.iaload, 1) := by decide +kernel
theorem dX12_digest_107 : decode cX12_digest 107 = .ok (.imul, 1) := by decide +kernel
theorem dX12_digest_108 : decode cX12_digest 108 = .ok (.if_icmp .ge 23, 3) := by decide +kernel
theorem dX12_digest_111 : decode cX12_digest 111 = .ok (.aload_n 0, 1) := by decide +kernel
theorem dX12_digest_112 : decode cX12_digest 112 = .ok (.aload_n 0, 1) := by decide +kernel
theorem dX12_digest_113 : decode cX12_digest 113 = .ok (.getfield 7, 3) := by decide +kernel
theorem dX12_digest_116 : decode cX12_digest 116 = .ok (.bipush 54, 2) := by decide +kernel
theorem dX12_digest_118 : decode cX12_digest 118 = .ok (.iload_n 1, 1) := by decide +kernel
theorem dX12_digest_119 : decode cX12_digest 119 = .ok (.iadd, 1) := by decide +kernel
theorem dX12_digest_120 : decode cX12_digest 120 = .ok (.iaload, 1) := by decide +kernel
theorem dX12_digest_121 : decode cX12_digest 121 = .ok (.i2l, 1) := by decide +kernel
theorem dX12_digest_122 : decode cX12_digest 122 = .ok (.invokevirtual 248, 3) := by decide +kernel
theorem dX12_digest_125 : decode cX12_digest 125 = .ok (.iinc 1 1, 3) := by decide +kernel
theorem dX12_digest_128 : decode cX12_digest 128 = .ok (.goto (-29), 3) := by decide +kernel
theorem dX12_digest_131 : decode cX12_digest 131 = .ok (.aload_n 0, 1) := by decide +kernel
theorem dX12_digest_132 : decode cX12_digest 132 = .ok (.aload_n 0, 1) := by decide +kernel
theorem dX12_digest_133 : decode cX12_digest 133 = .ok (.getfield 178, 3) := by decide +kernel
theorem dX12_digest_136 : decode cX12_digest 136 = .ok (.invokevirtual 248, 3) := by decide +kernel
theorem dX12_digest_139 : decode cX12_digest 139 = .ok (.aload_n 0, 1) := by decide +kernel
theorem dX12_digest_140 : decode cX12_digest 140 = .ok (.aload_n 0, 1) := by decide +kernel
theorem dX12_digest_141 : decode cX12_digest 141 = .ok (.getfield 23, 3) := by decide +kernel
theorem dX12_digest_144 : decode cX12_digest 144 = .ok (.invokevirtual 248, 3) := by decide +kernel
theorem dX12_digest_147 : decode cX12_digest 147 = .ok (.aload_n 0, 1) := by decide +kernel
theorem dX12_digest_148 : decode cX12_digest 148 = .ok (.getfield 243, 3) := by decide +kernel
theorem dX12_digest_151 : decode cX12_digest 151 = .ok (.lreturn, 1) := by decide +kernel
end
section
theorem dX0_init_0 : decode cX0_init 0 = .ok (.aload_n 0, 1) := by decide +kernel
theorem dX0_init_1 : decode cX0_init 1 = .ok (.invokespecial 3, 3) := by decide +kernel
theorem dX0_init_4 : decode cX0_init 4 = .ok (.aload_n 0, 1) := by decide +kernel
theorem dX0_init_5 : decode cX0_init 5 = .ok (.bipush 6, 2) := by decide +kernel
theorem dX0_init_7 : decode cX0_init 7 = .ok (.anewarray 9, 3) := by decide +kernel
theorem dX0_init_10 : decode cX0_init 10 = .ok (.putfield 11, 3) := by decide +kernel
theorem dX0_init_13 : decode cX0_init 13 = .ok (.aload_n 0, 1) := by decide +kernel
theorem dX0_init_14 : decode cX0_init 14 = .ok (.getfield 11, 3) := by decide +kernel
theorem dX0_init_17 : decode cX0_init 17 = .ok (.iconst 0, 1) := by decide +kernel
theorem dX0_init_18 : decode cX0_init 18 = .ok (.new 9, 3) := by decide +kernel
theorem dX0_init_21 : decode cX0_init 21 = .ok (.dup, 1) := by decide +kernel
theorem dX0_init_22 : decode cX0_init 22 = .ok (.invokespecial 17, 3) := by decide +kernel
theorem dX0_init_25 : decode cX0_init 25 = .ok (.aastore, 1) := by decide +kernel
theorem dX0_init_26 : decode cX0_init 26 = .ok (.aload_n 0, 1) := by decide +kernel
theorem dX0_init_27 : decode cX0_init 27 = .ok (.getfield 11, 3) := by decide +kernel
theorem dX0_init_30 : decode cX0_init 30 = .ok (.iconst 1, 1) := by decide +kernel
theorem dX0_init_31 : decode cX0_init 31 = .ok (.new 18, 3) := by decide +kernel
theorem dX0_init_34 : decode cX0_init 34 = .ok (.dup, 1) := by decide +kernel
theorem dX0_init_35 : decode cX0_init 35 = .ok (.invokespecial 20, 3) := by decide +kernel
theorem dX0_init_38 : decode cX0_init 38 = .ok (.aastore, 1) := by decide +kernel
theorem dX0_init_39 : decode cX0_init 39 = .ok (.aload_n 0, 1) := by decide +kernel
theorem dX0_init_40 : decode cX0_init 40 = .ok (.getfield 11, 3) := by decide +kernel
theorem dX0_init_43 : decode cX0_init 43 = .ok (.iconst 2, 1) := by decide +kernel
theorem dX0_init_44 : decode cX0_init 44 = .ok (.new 21, 3) := by decide +kernel
theorem dX0_init_47 : decode cX0_init 47 = .ok (.dup, 1) := by decide +kernel
theorem dX0_init_48 : decode cX0_init 48 = .ok (.invokespecial 23, 3) := by decide +kernel
theorem dX0_init_51 : decode cX0_init 51 = .ok (.aastore, 1) := by decide +kernel
theorem dX0_init_52 : decode cX0_init 52 = .ok (.aload_n 0, 1) := by decide +kernel
theorem dX0_init_53 : decode cX0_init 53 = .ok (.getfield 11, 3) := by decide +kernel
theorem dX0_init_56 : decode cX0_init 56 = .ok (.iconst 3, 1) := by decide +kernel
theorem dX0_init_57 : decode cX0_init 57 = .ok (.new 24, 3) := by decide +kernel
theorem dX0_init_60 : decode cX0_init 60 = .ok (.dup, 1) := by decide +kernel
theorem dX0_init_61 : decode cX0_init 61 = .ok (.invokespecial 26, 3) := by decide +kernel
theorem dX0_init_64 : decode cX0_init 64 = .ok (.aastore, 1) := by decide +kernel
theorem dX0_init_65 : decode cX0_init 65 = .ok (.aload_n 0, 1) := by decide +kernel
theorem dX0_init_66 : decode cX0_init 66 = .ok (.getfield 11, 3) := by decide +kernel
theorem dX0_init_69 : decode cX0_init 69 = .ok (.iconst 4, 1) := by decide +kernel
theorem dX0_init_70 : decode cX0_init 70 = .ok (.new 27, 3) := by decide +kernel
theorem dX0_init_73 : decode cX0_init 73 = .ok (.dup, 1) := by decide +kernel
theorem dX0_init_74 : decode cX0_init 74 = .ok (.invokespecial 29, 3) := by decide +kernel
theorem dX0_init_77 : decode cX0_init 77 = .ok (.aastore, 1) := by decide +kernel
theorem dX0_init_78 : decode cX0_init 78 = .ok (.aload_n 0, 1) := by decide +kernel
theorem dX0_init_79 : decode cX0_init 79 = .ok (.getfield 11, 3) := by decide +kernel
theorem dX0_init_82 : decode cX0_init 82 = .ok (.iconst 5, 1) := by decide +kernel
theorem dX0_init_83 : decode cX0_init 83 = .ok (.new 30, 3) := by decide +kernel
theorem dX0_init_86 : decode cX0_init 86 = .ok (.dup, 1) := by decide +kernel
theorem dX0_init_87 : decode cX0_init 87 = .ok (.invokespecial 32, 3) := by decide +kernel
theorem dX0_init_90 : decode cX0_init 90 = .ok (.aastore, 1) := by decide +kernel
theorem dX0_init_91 : decode cX0_init 91 = .ok (.return_, 1) := by decide +kernel
theorem dX0_reckon_0 : decode cX0_reckon 0 = .ok (.aload_n 0, 1) := by decide +kernel
theorem dX0_reckon_1 : decode cX0_reckon 1 = .ok (.aload_n 1, 1) := by decide +kernel
theorem dX0_reckon_2 : decode cX0_reckon 2 = .ok (.iload_n 2, 1) := by decide +kernel
theorem dX0_reckon_3 : decode cX0_reckon 3 = .ok (.invokevirtual 33, 3) := by decide +kernel
theorem dX0_reckon_6 : decode cX0_reckon 6 = .ok (.iconst 0, 1) := by decide +kernel
theorem dX0_reckon_7 : decode cX0_reckon 7 = .ok (.istore_n 3, 1) := by decide +kernel
theorem dX0_reckon_8 : decode cX0_reckon 8 = .ok (.iload_n 3, 1) := by decide +kernel
theorem dX0_reckon_9 : decode cX0_reckon 9 = .ok (.aload_n 1, 1) := by decide +kernel
theorem dX0_reckon_10 : decode cX0_reckon 10 = .ok (.getfield 37, 3) := by decide +kernel
theorem dX0_reckon_13 : decode cX0_reckon 13 = .ok (.if_icmp .ge 22, 3) := by decide +kernel
theorem dX0_reckon_16 : decode cX0_reckon 16 = .ok (.aload_n 0, 1) := by decide +kernel
theorem dX0_reckon_17 : decode cX0_reckon 17 = .ok (.aload_n 1, 1) := by decide +kernel
theorem dX0_reckon_18 : decode cX0_reckon 18 = .ok (.iload_n 2, 1) := by decide +kernel
theorem dX0_reckon_19 : decode cX0_reckon 19 = .ok (.iload_n 3, 1) := by decide +kernel
theorem dX0_reckon_20 : decode cX0_reckon 20 = .ok (.aload_n 1, 1) := by decide +kernel
theorem dX0_reckon_21 : decode cX0_reckon 21 = .ok (.iload_n 3, 1) := by decide +kernel
theorem dX0_reckon_22 : decode cX0_reckon 22 = .ok (.iconst 5, 1) := by decide +kernel
theorem dX0_reckon_23 : decode cX0_reckon 23 = .ok (.invokevirtual 43, 3) := by decide +kernel
theorem dX0_reckon_26 : decode cX0_reckon 26 = .ok (.invokevirtual 47, 3) := by decide +kernel
theorem dX0_reckon_29 : decode cX0_reckon 29 = .ok (.iinc 3 1, 3) := by decide +kernel
theorem dX0_reckon_32 : decode cX0_reckon 32 = .ok (.goto (-24), 3) := by decide +kernel
theorem dX0_reckon_35 : decode cX0_reckon 35 = .ok (.return_, 1) := by decide +kernel
theorem dX0_reckonMarked_0 : decode cX0_reckonMarked 0 = .ok (.aload_n 1, 1) := by decide +kernel
theorem dX0_reckonMarked_1 : decode cX0_reckonMarked 1 = .ok (.iload_n 2, 1) := by decide +kernel
theorem dX0_reckonMarked_2 : decode cX0_reckonMarked 2 = .ok (.iconst 1, 1) := by decide +kernel
theorem dX0_reckonMarked_3 : decode cX0_reckonMarked 3 = .ok (.invokevirtual 43, 3) := by decide +kernel
theorem dX0_reckonMarked_6 : decode cX0_reckonMarked 6 = .ok (.istore 4, 2) := by decide +kernel
theorem dX0_reckonMarked_8 : decode cX0_reckonMarked 8 = .ok (.aload_n 0, 1) := by decide +kernel
theorem dX0_reckonMarked_9 : decode cX0_reckonMarked 9 = .ok (.aload_n 1, 1) := by decide +kernel
theorem dX0_reckonMarked_10 : decode cX0_reckonMarked 10 = .ok (.iload 4, 2) := by decide +kernel
theorem dX0_reckonMarked_12 : decode cX0_reckonMarked 12 = .ok (.invokevirtual 33, 3) := by decide +kernel
theorem dX0_reckonMarked_15 : decode cX0_reckonMarked 15 = .ok (.iconst 0, 1) := by decide +kernel
theorem dX0_reckonMarked_16 : decode cX0_reckonMarked 16 = .ok (.istore 5, 2) := by decide +kernel
theorem dX0_reckonMarked_18 : decode cX0_reckonMarked 18 = .ok (.iload 5, 2) := by decide +kernel
theorem dX0_reckonMarked_20 : decode cX0_reckonMarked 20 = .ok (.aload_n 1, 1) := by decide +kernel
theorem dX0_reckonMarked_21 : decode cX0_reckonMarked 21 = .ok (.getfield 37, 3) := by decide +kernel
theorem dX0_reckonMarked_24 : decode cX0_reckonMarked 24 = .ok (.if_icmp .ge 35, 3) := by decide +kernel
theorem dX0_reckonMarked_27 : decode cX0_reckonMarked 27 = .ok (.aload_n 0, 1) := by decide +kernel
theorem dX0_reckonMarked_28 : decode cX0_reckonMarked 28 = .ok (.aload_n 1, 1) := by decide +kernel
theorem dX0_reckonMarked_29 : decode cX0_reckonMarked 29 = .ok (.iload 4, 2) := by decide +kernel
theorem dX0_reckonMarked_31 : decode cX0_reckonMarked 31 = .ok (.iload 5, 2) := by decide +kernel
theorem dX0_reckonMarked_33 : decode cX0_reckonMarked 33 = .ok (.iload 5, 2) := by decide +kernel
theorem dX0_reckonMarked_35 : decode cX0_reckonMarked 35 = .ok (.iload_n 2, 1) := by decide +kernel
theorem dX0_reckonMarked_36 : decode cX0_reckonMarked 36 = .ok (.if_icmp .ne 7, 3) := by decide +kernel
theorem dX0_reckonMarked_39 : decode cX0_reckonMarked 39 = .ok (.iload_n 3, 1) := by decide +kernel
theorem dX0_reckonMarked_40 : decode cX0_reckonMarked 40 = .ok (.goto 10, 3) := by decide +kernel
theorem dX0_reckonMarked_43 : decode cX0_reckonMarked 43 = .ok (.aload_n 1, 1) := by decide +kernel
theorem dX0_reckonMarked_44 : decode cX0_reckonMarked 44 = .ok (.iload 5, 2) := by decide +kernel
theorem dX0_reckonMarked_46 : decode cX0_reckonMarked 46 = .ok (.iconst 5, 1) := by decide +kernel
theorem dX0_reckonMarked_47 : decode cX0_reckonMarked 47 = .ok (.invokevirtual 43, 3) := by decide +kernel
theorem dX0_reckonMarked_50 : decode cX0_reckonMarked 50 = .ok (.invokevirtual 47, 3) := by decide +kernel
theorem dX0_reckonMarked_53 : decode cX0_reckonMarked 53 = .ok (.iinc 5 1, 3) := by decide +kernel
theorem dX0_reckonMarked_56 : decode cX0_reckonMarked 56 = .ok (.goto (-38), 3) := by decide +kernel
theorem dX0_reckonMarked_59 : decode cX0_reckonMarked 59 = .ok (.return_, 1) := by decide +kernel
theorem dX0_begin_0 : decode cX0_begin 0 = .ok (.aload_n 0, 1) := by decide +kernel
theorem dX0_begin_1 : decode cX0_begin 1 = .ok (.iconst 0, 1) := by decide +kernel
theorem dX0_begin_2 : decode cX0_begin 2 = .ok (.putfield 51, 3) := by decide +kernel
theorem dX0_begin_5 : decode cX0_begin 5 = .ok (.aload_n 0, 1) := by decide +kernel
theorem dX0_begin_6 : decode cX0_begin 6 = .ok (.aload_n 1, 1) := by decide +kernel
theorem dX0_begin_7 : decode cX0_begin 7 = .ok (.getfield 54, 3) := by decide +kernel
theorem dX0_begin_10 : decode cX0_begin 10 = .ok (.putfield 57, 3) := by decide +kernel
theorem dX0_begin_13 : decode cX0_begin 13 = .ok (.aload_n 0, 1) := by decide +kernel
theorem dX0_begin_14 : decode cX0_begin 14 = .ok (.iload_n 2, 1) := by decide +kernel
theorem dX0_begin_15 : decode cX0_begin 15 = .ok (.iconst 4, 1) := by decide +kernel
theorem dX0_begin_16 : decode cX0_begin 16 = .ok (.if_icmp .ne 10, 3) := by decide +kernel
theorem dX0_begin_19 : decode cX0_begin 19 = .ok (.aload_n 1, 1) := by decide +kernel
theorem dX0_begin_20 : decode cX0_begin 20 = .ok (.getfield 54, 3) := by decide +kernel
theorem dX0_begin_23 : decode cX0_begin 23 = .ok (.goto 4, 3) := by decide +kernel
theorem dX0_begin_26 : decode cX0_begin 26 = .ok (.iconst 0, 1) := by decide +kernel
theorem dX0_begin_27 : decode cX0_begin 27 = .ok (.putfield 60, 3) := by decide +kernel
theorem dX0_begin_30 : decode cX0_begin 30 = .ok (.aload_n 0, 1) := by decide +kernel
theorem dX0_begin_31 : decode cX0_begin 31 = .ok (.iconst 0, 1) := by decide +kernel
theorem dX0_begin_32 : decode cX0_begin 32 = .ok (.putfield 63, 3) := by decide +kernel
theorem dX0_begin_35 : decode cX0_begin 35 = .ok (.return_, 1) := by decide +kernel
theorem dX0_enter_0 : decode cX0_enter 0 = .ok (.aload_n 0, 1) := by decide +kernel
theorem dX0_enter_1 : decode cX0_enter 1 = .ok (.aload_n 1, 1) := by decide +kernel
theorem dX0_enter_2 : decode cX0_enter 2 = .ok (.iload_n 3, 1) := by decide +kernel
theorem dX0_enter_3 : decode cX0_enter 3 = .ok (.invokevirtual 66, 3) := by decide +kernel
theorem dX0_enter_6 : decode cX0_enter 6 = .ok (.astore 5, 2) := by decide +kernel
theorem dX0_enter_8 : decode cX0_enter 8 = .ok (.aload 5, 2) := by decide +kernel
theorem dX0_enter_10 : decode cX0_enter 10 = .ok (.iload 4, 2) := by decide +kernel
theorem dX0_enter_12 : decode cX0_enter 12 = .ok (.invokevirtual 70, 3) := by decide +kernel
theorem dX0_enter_15 : decode cX0_enter 15 = .ok (.istore 6, 2) := by decide +kernel
theorem dX0_enter_17 : decode cX0_enter 17 = .ok (.aload_n 1, 1) := by decide +kernel
theorem dX0_enter_18 : decode cX0_enter 18 = .ok (.getfield 74, 3) := by decide +kernel
theorem dX0_enter_21 : decode cX0_enter 21 = .ok (.iload_n 3, 1) := by decide +kernel
theorem dX0_enter_22 : decode cX0_enter 22 = .ok (.invokestatic 77, 3) := by decide +kernel
theorem dX0_enter_25 : decode cX0_enter 25 = .ok (.ifCond .eq 7, 3) := by decide +kernel
theorem dX0_enter_28 : decode cX0_enter 28 = .ok (.iconst 0, 1) := by decide +kernel
theorem dX0_enter_29 : decode cX0_enter 29 = .ok (.goto 10, 3) := by decide +kernel
theorem dX0_enter_32 : decode cX0_enter 32 = .ok (.aload 5, 2) := by decide +kernel
theorem dX0_enter_34 : decode cX0_enter 34 = .ok (.iload 4, 2) := by decide +kernel
theorem dX0_enter_36 : decode cX0_enter 36 = .ok (.invokevirtual 81, 3) := by decide +kernel
theorem dX0_enter_39 : decode cX0_enter 39 = .ok (.istore 7, 2) := by decide +kernel
theorem dX0_enter_41 : decode cX0_enter 41 = .ok (.aload_n 0, 1) := by decide +kernel
theorem dX0_enter_42 : decode cX0_enter 42 = .ok (.dup, 1) := by decide +kernel
theorem dX0_enter_43 : decode cX0_enter 43 = .ok (.getfield 57, 3) := by decide +kernel
theorem dX0_enter_46 : decode cX0_enter 46 = .ok (.iload 6, 2) := by decide +kernel
theorem dX0_enter_48 : decode cX0_enter 48 = .ok (.iadd, 1) := by decide +kernel
theorem dX0_enter_49 : decode cX0_enter 49 = .ok (.putfield 57, 3) := by decide +kernel
theorem dX0_enter_52 : decode cX0_enter 52 = .ok (.aload_n 0, 1) := by decide +kernel
theorem dX0_enter_53 : decode cX0_enter 53 = .ok (.dup, 1) := by decide +kernel
theorem dX0_enter_54 : decode cX0_enter 54 = .ok (.getfield 51, 3) := by decide +kernel
theorem dX0_enter_57 : decode cX0_enter 57 = .ok (.iload 7, 2) := by decide +kernel
theorem dX0_enter_59 : decode cX0_enter 59 = .ok (.iadd, 1) := by decide +kernel
theorem dX0_enter_60 : decode cX0_enter 60 = .ok (.putfield 51, 3) := by decide +kernel
theorem dX0_enter_63 : decode cX0_enter 63 = .ok (.aload_n 1, 1) := by decide +kernel
theorem dX0_enter_64 : decode cX0_enter 64 = .ok (.iload_n 3, 1) := by decide +kernel
theorem dX0_enter_65 : decode cX0_enter 65 = .ok (.iconst 1, 1) := by decide +kernel
theorem dX0_enter_66 : decode cX0_enter 66 = .ok (.invokevirtual 43, 3) := by decide +kernel
theorem dX0_enter_69 : decode cX0_enter 69 = .ok (.iload_n 2, 1) := by decide +kernel
theorem dX0_enter_70 : decode cX0_enter 70 = .ok (.if_icmp .ne 25, 3) := by decide +kernel
theorem dX0_enter_73 : decode cX0_enter 73 = .ok (.aload_n 0, 1) := by decide +kernel
theorem dX0_enter_74 : decode cX0_enter 74 = .ok (.dup, 1) := by decide +kernel
theorem dX0_enter_75 : decode cX0_enter 75 = .ok (.getfield 60, 3) := by decide +kernel
theorem dX0_enter_78 : decode cX0_enter 78 = .ok (.iload 6, 2) := by decide +kernel
theorem dX0_enter_80 : decode cX0_enter 80 = .ok (.iadd, 1) := by decide +kernel
theorem dX0_enter_81 : decode cX0_enter 81 = .ok (.putfield 60, 3) := by decide +kernel
theorem dX0_enter_84 : decode cX0_enter 84 = .ok (.aload_n 0, 1) := by decide +kernel
theorem dX0_enter_85 : decode cX0_enter 85 = .ok (.dup, 1) := by decide +kernel
theorem dX0_enter_86 : decode cX0_enter 86 = .ok (.getfield 63, 3) := by decide +kernel
theorem dX0_enter_89 : decode cX0_enter 89 = .ok (.iload 7, 2) := by decide +kernel
theorem dX0_enter_91 : decode cX0_enter 91 = .ok (.iadd, 1) := by decide +kernel
theorem dX0_enter_92 : decode cX0_enter 92 = .ok (.putfield 63, 3) := by decide +kernel
theorem dX0_enter_95 : decode cX0_enter 95 = .ok (.return_, 1) := by decide +kernel
theorem dX0_kindOf_0 : decode cX0_kindOf 0 = .ok (.aload_n 1, 1) := by decide +kernel
theorem dX0_kindOf_1 : decode cX0_kindOf 1 = .ok (.iload_n 2, 1) := by decide +kernel
theorem dX0_kindOf_2 : decode cX0_kindOf 2 = .ok (.iconst 0, 1) := by decide +kernel
theorem dX0_kindOf_3 : decode cX0_kindOf 3 = .ok (.invokevirtual 43, 3) := by decide +kernel
theorem dX0_kindOf_6 : decode cX0_kindOf 6 = .ok (.istore_n 3, 1) := by decide +kernel
theorem dX0_kindOf_7 : decode cX0_kindOf 7 = .ok (.aload_n 0, 1) := by decide +kernel
theorem dX0_kindOf_8 : decode cX0_kindOf 8 = .ok (.getfield 11, 3) := by decide +kernel
theorem dX0_kindOf_11 : decode cX0_kindOf 11 = .ok (.iload_n 3, 1) := by decide +kernel
theorem dX0_kindOf_12 : decode cX0_kindOf 12 = .ok (.iconst 0, 1) := by decide +kernel
theorem dX0_kindOf_13 : decode cX0_kindOf 13 = .ok (.iconst 5, 1) := by decide +kernel
theorem dX0_kindOf_14 : decode cX0_kindOf 14 = .ok (.invokestatic 84, 3) := by decide +kernel
theorem dX0_kindOf_17 : decode cX0_kindOf 17 = .ok (.ifCond .eq 7, 3) := by decide +kernel
theorem dX0_kindOf_20 : decode cX0_kindOf 20 = .ok (.iload_n 3, 1) := by decide +kernel
theorem dX0_kindOf_21 : decode cX0_kindOf 21 = .ok (.goto 4, 3) := by decide +kernel
theorem dX0_kindOf_24 : decode cX0_kindOf 24 = .ok (.iconst 0, 1) := by decide +kernel
theorem dX0_kindOf_25 : decode cX0_kindOf 25 = .ok (.aaload, 1) := by decide +kernel
theorem dX0_kindOf_26 : decode cX0_kindOf 26 = .ok (.areturn, 1) := by decide +kernel
theorem dX0_madeGoodOf_0 : decode cX0_madeGoodOf 0 = .ok (.aload_n 0, 1) := by decide +kernel
theorem dX0_madeGoodOf_1 : decode cX0_madeGoodOf 1 = .ok (.aload_n 1, 1) := by decide +kernel
theorem dX0_madeGoodOf_2 : decode cX0_madeGoodOf 2 = .ok (.iload_n 2, 1) := by decide +kernel
theorem dX0_madeGoodOf_3 : decode cX0_madeGoodOf 3 = .ok (.invokevirtual 66, 3) := by decide +kernel
theorem dX0_madeGoodOf_6 : decode cX0_madeGoodOf 6 = .ok (.aload_n 1, 1) := by decide +kernel
theorem dX0_madeGoodOf_7 : decode cX0_madeGoodOf 7 = .ok (.iload_n 2, 1) := by decide +kernel
theorem dX0_madeGoodOf_8 : decode cX0_madeGoodOf 8 = .ok (.iconst 5, 1) := by decide +kernel
theorem dX0_madeGoodOf_9 : decode cX0_madeGoodOf 9 = .ok (.invokevirtual 43, 3) := by decide +kernel
theorem dX0_madeGoodOf_12 : decode cX0_madeGoodOf 12 = .ok (.invokevirtual 81, 3) := by decide +kernel
theorem dX0_madeGoodOf_15 : decode cX0_madeGoodOf 15 = .ok (.ireturn, 1) := by decide +kernel
theorem dX0_below_0 : decode cX0_below 0 = .ok (.aload_n 0, 1) := by decide +kernel
theorem dX0_below_1 : decode cX0_below 1 = .ok (.getfield 57, 3) := by decide +kernel
theorem dX0_below_4 : decode cX0_below 4 = .ok (.ifCond .ne 7, 3) := by decide +kernel
theorem dX0_below_7 : decode cX0_below 7 = .ok (.lconst 1, 1) := by decide +kernel
theorem dX0_below_8 : decode cX0_below 8 = .ok (.goto 8, 3) := by decide +kernel
theorem dX0_below_11 : decode cX0_below 11 = .ok (.aload_n 0, 1) := by decide +kernel
theorem dX0_below_12 : decode cX0_below 12 = .ok (.getfield 57, 3) := by decide +kernel
theorem dX0_below_15 : decode cX0_below 15 = .ok (.i2l, 1) := by decide +kernel
theorem dX0_below_16 : decode cX0_below 16 = .ok (.lreturn, 1) := by decide +kernel
theorem dX0_shareAbove_0 : decode cX0_shareAbove 0 = .ok (.aload_n 0, 1) := by decide +kernel
theorem dX0_shareAbove_1 : decode cX0_shareAbove 1 = .ok (.getfield 51, 3) := by decide +kernel
theorem dX0_shareAbove_4 : decode cX0_shareAbove 4 = .ok (.i2l, 1) := by decide +kernel
theorem dX0_shareAbove_5 : decode cX0_shareAbove 5 = .ok (.aload_n 0, 1) := by decide +kernel
theorem dX0_shareAbove_6 : decode cX0_shareAbove 6 = .ok (.getfield 60, 3) := by decide +kernel
theorem dX0_shareAbove_9 : decode cX0_shareAbove 9 = .ok (.i2l, 1) := by decide +kernel
theorem dX0_shareAbove_10 : decode cX0_shareAbove 10 = .ok (.lmul, 1) := by decide +kernel
theorem dX0_shareAbove_11 : decode cX0_shareAbove 11 = .ok (.lreturn, 1) := by decide +kernel
theorem dX0_netAbove_0 : decode cX0_netAbove 0 = .ok (.aload_n 0, 1) := by decide +kernel
theorem dX0_netAbove_1 : decode cX0_netAbove 1 = .ok (.invokevirtual 88, 3) := by decide +kernel
theorem dX0_netAbove_4 : decode cX0_netAbove 4 = .ok (.aload_n 0, 1) := by decide +kernel
theorem dX0_netAbove_5 : decode cX0_netAbove 5 = .ok (.getfield 63, 3) := by decide +kernel
theorem dX0_netAbove_8 : decode cX0_netAbove 8 = .ok (.i2l, 1) := by decide +kernel
theorem dX0_netAbove_9 : decode cX0_netAbove 9 = .ok (.aload_n 0, 1) := by decide +kernel
theorem dX0_netAbove_10 : decode cX0_netAbove 10 = .ok (.invokevirtual 92, 3) := by decide +kernel
theorem dX0_netAbove_13 : decode cX0_netAbove 13 = .ok (.lmul, 1) := by decide +kernel
theorem dX0_netAbove_14 : decode cX0_netAbove 14 = .ok (.lsub, 1) := by decide +kernel
theorem dX0_netAbove_15 : decode cX0_netAbove 15 = .ok (.lreturn, 1) := by decide +kernel
theorem dX1_init_0 : decode cX1_init 0 = .ok (.aload_n 0, 1) := by decide +kernel
theorem dX1_init_1 : decode cX1_init 1 = .ok (.invokespecial 3, 3) := by decide +kernel
theorem dX1_init_4 : decode cX1_init 4 = .ok (.aload_n 0, 1) := by decide +kernel
theorem dX1_init_5 : decode cX1_init 5 = .ok (.bipush 20, 2) := by decide +kernel
theorem dX1_init_7 : decode cX1_init 7 = .ok (.putfield 9, 3) := by decide +kernel
theorem dX1_init_10 : decode cX1_init 10 = .ok (.aload_n 0, 1) := by decide +kernel
theorem dX1_init_11 : decode cX1_init 11 = .ok (.bipush 60, 2) := by decide +kernel
theorem dX1_init_13 : decode cX1_init 13 = .ok (.putfield 15, 3) := by decide +kernel
theorem dX1_init_16 : decode cX1_init 16 = .ok (.aload_n 0, 1) := by decide +kernel
theorem dX1_init_17 : decode cX1_init 17 = .ok (.bipush 48, 2) := by decide +kernel
theorem dX1_init_19 : decode cX1_init 19 = .ok (.newarray .int, 2) := by decide +kernel
theorem dX1_init_21 : decode cX1_init 21 = .ok (.putfield 18, 3) := by decide +kernel
theorem dX1_init_24 : decode cX1_init 24 = .ok (.aload_n 0, 1) := by decide +kernel
theorem dX1_init_25 : decode cX1_init 25 = .ok (.bipush 8, 2) := by decide +kernel
theorem dX1_init_27 : decode cX1_init 27 = .ok (.newarray .int, 2) := by decide +kernel
theorem dX1_init_29 : decode cX1_init 29 = .ok (.putfield 22, 3) := by decide +kernel
theorem dX1_init_32 : decode cX1_init 32 = .ok (.aload_n 0, 1) := by decide +kernel
theorem dX1_init_33 : decode cX1_init 33 = .ok (.bipush 18, 2) := by decide +kernel
theorem dX1_init_35 : decode cX1_init 35 = .ok (.newarray .int, 2) := by decide +kernel
theorem dX1_init_37 : decode cX1_init 37 = .ok (.putfield 25, 3) := by decide +kernel
theorem dX1_init_40 : decode cX1_init 40 = .ok (.return_, 1) := by decide +kernel
theorem dX1_restart_0 : decode cX1_restart 0 = .ok (.aload_n 0, 1) := by decide +kernel
theorem dX1_restart_1 : decode cX1_restart 1 = .ok (.iload_n 1, 1) := by decide +kernel
theorem dX1_restart_2 : decode cX1_restart 2 = .ok (.putfield 9, 3) := by decide +kernel
theorem dX1_restart_5 : decode cX1_restart 5 = .ok (.aload_n 0, 1) := by decide +kernel
theorem dX1_restart_6 : decode cX1_restart 6 = .ok (.iload_n 2, 1) := by decide +kernel
theorem dX1_restart_7 : decode cX1_restart 7 = .ok (.putfield 15, 3) := by decide +kernel
theorem dX1_restart_10 : decode cX1_restart 10 = .ok (.aload_n 0, 1) := by decide +kernel
theorem dX1_restart_11 : decode cX1_restart 11 = .ok (.iconst 0, 1) := by decide +kernel
theorem dX1_restart_12 : decode cX1_restart 12 = .ok (.putfield 28, 3) := by decide +kernel
theorem dX1_restart_15 : decode cX1_restart 15 = .ok (.aload_n 0, 1) := by decide +kernel
theorem dX1_restart_16 : decode cX1_restart 16 = .ok (.iconst 0, 1) := by decide +kernel
theorem dX1_restart_17 : decode cX1_restart 17 = .ok (.putfield 31, 3) := by decide +kernel
theorem dX1_restart_20 : decode cX1_restart 20 = .ok (.aload_n 0, 1) := by decide +kernel
theorem dX1_restart_21 : decode cX1_restart 21 = .ok (.iconst 0, 1) := by decide +kernel
theorem dX1_restart_22 : decode cX1_restart 22 = .ok (.putfield 34, 3) := by decide +kernel
theorem dX1_restart_25 : decode cX1_restart 25 = .ok (.aload_n 0, 1) := by decide +kernel
theorem dX1_restart_26 : decode cX1_restart 26 = .ok (.iconst 0, 1) := by decide +kernel
theorem dX1_restart_27 : decode cX1_restart 27 = .ok (.putfield 37, 3) := by decide +kernel
theorem dX1_restart_30 : decode cX1_restart 30 = .ok (.return_, 1) := by decide +kernel
theorem dX1_become_0 : decode cX1_become 0 = .ok (.aload_n 0, 1) := by decide +kernel
theorem dX1_become_1 : decode cX1_become 1 = .ok (.aload_n 1, 1) := by decide +kernel
theorem dX1_become_2 : decode cX1_become 2 = .ok (.getfield 9, 3) := by decide +kernel
theorem dX1_become_5 : decode cX1_become 5 = .ok (.putfield 9, 3) := by decide +kernel
theorem dX1_become_8 : decode cX1_become 8 = .ok (.aload_n 0, 1) := by decide +kernel
theorem dX1_become_9 : decode cX1_become 9 = .ok (.aload_n 1, 1) := by decide +kernel
theorem dX1_become_10 : decode cX1_become 10 = .ok (.getfield 15, 3) := by decide +kernel
theorem dX1_become_13 : decode cX1_become 13 = .ok (.putfield 15, 3) := by decide +kernel
theorem dX1_become_16 : decode cX1_become 16 = .ok (.aload_n 0, 1) := by decide +kernel
theorem dX1_become_17 : decode cX1_become 17 = .ok (.aload_n 1, 1) := by decide +kernel
theorem dX1_become_18 : decode cX1_become 18 = .ok (.getfield 28, 3) := by decide +kernel
theorem dX1_become_21 : decode cX1_become 21 = .ok (.putfield 28, 3) := by decide +kernel
theorem dX1_become_24 : decode cX1_become 24 = .ok (.aload_n 0, 1) := by decide +kernel
theorem dX1_become_25 : decode cX1_become 25 = .ok (.aload_n 1, 1) := by decide +kernel
theorem dX1_become_26 : decode cX1_become 26 = .ok (.getfield 31, 3) := by decide +kernel
theorem dX1_become_29 : decode cX1_become 29 = .ok (.putfield 31, 3) := by decide +kernel
theorem dX1_become_32 : decode cX1_become 32 = .ok (.aload_n 0, 1) := by decide +kernel
theorem dX1_become_33 : decode cX1_become 33 = .ok (.aload_n 1, 1) := by decide +kernel
theorem dX1_become_34 : decode cX1_become 34 = .ok (.getfield 34, 3) := by decide +kernel
theorem dX1_become_37 : decode cX1_become 37 = .ok (.putfield 34, 3) := by decide +kernel
theorem dX1_become_40 : decode cX1_become 40 = .ok (.aload_n 0, 1) := by decide +kernel
theorem dX1_become_41 : decode cX1_become 41 = .ok (.aload_n 1, 1) := by decide +kernel
theorem dX1_become_42 : decode cX1_become 42 = .ok (.getfield 37, 3) := by decide +kernel
theorem dX1_become_45 : decode cX1_become 45 = .ok (.putfield 37, 3) := by decide +kernel
theorem dX1_become_48 : decode cX1_become 48 = .ok (.aload_n 1, 1) := by decide +kernel
theorem dX1_become_49 : decode cX1_become 49 = .ok (.getfield 18, 3) := by decide +kernel
theorem dX1_become_52 : decode cX1_become 52 = .ok (.iconst 0, 1) := by decide +kernel
theorem dX1_become_53 : decode cX1_become 53 = .ok (.aload_n 0, 1) := by decide +kernel
theorem dX1_become_54 : decode cX1_become 54 = .ok (.getfield 18, 3) := by decide +kernel
theorem dX1_become_57 : decode cX1_become 57 = .ok (.iconst 0, 1) := by decide +kernel
theorem dX1_become_58 : decode cX1_become 58 = .ok (.aload_n 0, 1) := by decide +kernel
theorem dX1_become_59 : decode cX1_become 59 = .ok (.getfield 18, 3) := by decide +kernel
theorem dX1_become_62 : decode cX1_become 62 = .ok (.arraylength, 1) := by decide +kernel
theorem dX1_become_63 : decode cX1_become 63 = .ok (.invokestatic 40, 3) := by decide +kernel
theorem dX1_become_66 : decode cX1_become 66 = .ok (.aload_n 1, 1) := by decide +kernel
theorem dX1_become_67 : decode cX1_become 67 = .ok (.getfield 22, 3) := by decide +kernel
theorem dX1_become_70 : decode cX1_become 70 = .ok (.iconst 0, 1) := by decide +kernel
theorem dX1_become_71 : decode cX1_become 71 = .ok (.aload_n 0, 1) := by decide +kernel
theorem dX1_become_72 : decode cX1_become 72 = .ok (.getfield 22, 3) := by decide +kernel
theorem dX1_become_75 : decode cX1_become 75 = .ok (.iconst 0, 1) := by decide +kernel
theorem dX1_become_76 : decode cX1_become 76 = .ok (.aload_n 0, 1) := by decide +kernel
theorem dX1_become_77 : decode cX1_become 77 = .ok (.getfield 22, 3) := by decide +kernel
theorem dX1_become_80 : decode cX1_become 80 = .ok (.arraylength, 1) := by decide +kernel
theorem dX1_become_81 : decode cX1_become 81 = .ok (.invokestatic 40, 3) := by decide +kernel
theorem dX1_become_84 : decode cX1_become 84 = .ok (.aload_n 1, 1) := by decide +kernel
theorem dX1_become_85 : decode cX1_become 85 = .ok (.getfield 25, 3) := by decide +kernel
theorem dX1_become_88 : decode cX1_become 88 = .ok (.iconst 0, 1) := by decide +kernel
theorem dX1_become_89 : decode cX1_become 89 = .ok (.aload_n 0, 1) := by decide +kernel
theorem dX1_become_90 : decode cX1_become 90 = .ok (.getfield 25, 3) := by decide +kernel
theorem dX1_become_93 : decode cX1_become 93 = .ok (.iconst 0, 1) := by decide +kernel
theorem dX1_become_94 : decode cX1_become 94 = .ok (.aload_n 0, 1) := by decide +kernel
theorem dX1_become_95 : decode cX1_become 95 = .ok (.getfield 25, 3) := by decide +kernel
theorem dX1_become_98 : decode cX1_become 98 = .ok (.arraylength, 1) := by decide +kernel
theorem dX1_become_99 : decode cX1_become 99 = .ok (.invokestatic 40, 3) := by decide +kernel
theorem dX1_become_102 : decode cX1_become 102 = .ok (.return_, 1) := by decide +kernel
theorem dX1_has_0 : decode cX1_has 0 = .ok (.iload_n 1, 1) := by decide +kernel
theorem dX1_has_1 : decode cX1_has 1 = .ok (.ifCond .lt 15, 3) := by decide +kernel
theorem dX1_has_4 : decode cX1_has 4 = .ok (.iload_n 1, 1) := by decide +kernel
theorem dX1_has_5 : decode cX1_has 5 = .ok (.aload_n 0, 1) := by decide +kernel
theorem dX1_has_6 : decode cX1_has 6 = .ok (.getfield 28, 3) := by decide +kernel
theorem dX1_has_9 : decode cX1_has 9 = .ok (.if_icmp .ge 7, 3) := by decide +kernel
theorem dX1_has_12 : decode cX1_has 12 = .ok (.iconst 1, 1) := by decide +kernel
theorem dX1_has_13 : decode cX1_has 13 = .ok (.goto 4, 3) := by decide +kernel
theorem dX1_has_16 : decode cX1_has 16 = .ok (.iconst 0, 1) := by decide +kernel
theorem dX1_has_17 : decode cX1_has 17 = .ok (.ireturn, 1) := by decide +kernel
theorem dX1_fact_0 : decode cX1_fact 0 = .ok (.aload_n 0, 1) := by decide +kernel
theorem dX1_fact_1 : decode cX1_fact 1 = .ok (.iload_n 1, 1) := by decide +kernel
theorem dX1_fact_2 : decode cX1_fact 2 = .ok (.invokevirtual 46, 3) := by decide +kernel
theorem dX1_fact_5 : decode cX1_fact 5 = .ok (.ifCond .eq 26, 3) := by decide +kernel
theorem dX1_fact_8 : decode cX1_fact 8 = .ok (.iload_n 2, 1) := by decide +kernel
theorem dX1_fact_9 : decode cX1_fact 9 = .ok (.iconst 0, 1) := by decide +kernel
theorem dX1_fact_10 : decode cX1_fact 10 = .ok (.iconst 5, 1) := by decide +kernel
theorem dX1_fact_11 : decode cX1_fact 11 = .ok (.invokestatic 50, 3) := by decide +kernel
theorem dX1_fact_14 : decode cX1_fact 14 = .ok (.ifCond .eq 17, 3) := by decide +kernel
theorem dX1_fact_17 : decode cX1_fact 17 = .ok (.aload_n 0, 1) := by decide +kernel
theorem dX1_fact_18 : decode cX1_fact 18 = .ok (.getfield 18, 3) := by decide +kernel
theorem dX1_fact_21 : decode cX1_fact 21 = .ok (.iload_n 1, 1) := by decide +kernel
theorem dX1_fact_22 : decode cX1_fact 22 = .ok (.bipush 6, 2) := by decide +kernel
theorem dX1_fact_24 : decode cX1_fact 24 = .ok (.imul, 1) := by decide +kernel
theorem dX1_fact_25 : decode cX1_fact 25 = .ok (.iload_n 2, 1) := by decide +kernel
theorem dX1_fact_26 : decode cX1_fact 26 = .ok (.iadd, 1) := by decide +kernel
theorem dX1_fact_27 : decode cX1_fact 27 = .ok (.iaload, 1) := by decide +kernel
theorem dX1_fact_28 : decode cX1_fact 28 = .ok (.goto 4, 3) := by decide +kernel
theorem dX1_fact_31 : decode cX1_fact 31 = .ok (.iconst (-1), 1) := by decide +kernel
theorem dX1_fact_32 : decode cX1_fact 32 = .ok (.ireturn, 1) := by decide +kernel
theorem dX1_sighted_0 : decode cX1_sighted 0 = .ok (.iload_n 1, 1) := by decide +kernel
theorem dX1_sighted_1 : decode cX1_sighted 1 = .ok (.iconst 0, 1) := by decide +kernel
theorem dX1_sighted_2 : decode cX1_sighted 2 = .ok (.aload_n 0, 1) := by decide +kernel
theorem dX1_sighted_3 : decode cX1_sighted 3 = .ok (.getfield 37, 3) := by decide +kernel
theorem dX1_sighted_6 : decode cX1_sighted 6 = .ok (.iconst 1, 1) := by decide +kernel
theorem dX1_sighted_7 : decode cX1_sighted 7 = .ok (.isub, 1) := by decide +kernel
theorem dX1_sighted_8 : decode cX1_sighted 8 = .ok (.invokestatic 50, 3) := by decide +kernel
theorem dX1_sighted_11 : decode cX1_sighted 11 = .ok (.ifCond .eq 25, 3) := by decide +kernel
theorem dX1_sighted_14 : decode cX1_sighted 14 = .ok (.iload_n 2, 1) := by decide +kernel
theorem dX1_sighted_15 : decode cX1_sighted 15 = .ok (.iconst 0, 1) := by decide +kernel
theorem dX1_sighted_16 : decode cX1_sighted 16 = .ok (.iconst 2, 1) := by decide +kernel
theorem dX1_sighted_17 : decode cX1_sighted 17 = .ok (.invokestatic 50, 3) := by decide +kernel
theorem dX1_sighted_20 : decode cX1_sighted 20 = .ok (.ifCond .eq 16, 3) := by decide +kernel
theorem dX1_sighted_23 : decode cX1_sighted 23 = .ok (.aload_n 0, 1) := by decide +kernel
theorem dX1_sighted_24 : decode cX1_sighted 24 = .ok (.getfield 25, 3) := by decide +kernel
theorem dX1_sighted_27 : decode cX1_sighted 27 = .ok (.iload_n 1, 1) := by decide +kernel
theorem dX1_sighted_28 : decode cX1_sighted 28 = .ok (.iconst 3, 1) := by decide +kernel
theorem dX1_sighted_29 : decode cX1_sighted 29 = .ok (.imul, 1) := by decide +kernel
theorem dX1_sighted_30 : decode cX1_sighted 30 = .ok (.iload_n 2, 1) := by decide +kernel
theorem dX1_sighted_31 : decode cX1_sighted 31 = .ok (.iadd, 1) := by decide +kernel
theorem dX1_sighted_32 : decode cX1_sighted 32 = .ok (.iaload, 1) := by decide +kernel
theorem dX1_sighted_33 : decode cX1_sighted 33 = .ok (.goto 4, 3) := by decide +kernel
theorem dX1_sighted_36 : decode cX1_sighted 36 = .ok (.iconst (-1), 1) := by decide +kernel
theorem dX1_sighted_37 : decode cX1_sighted 37 = .ok (.ireturn, 1) := by decide +kernel
theorem dX1_load_0 : decode cX1_load 0 = .ok (.aload_n 0, 1) := by decide +kernel
theorem dX1_load_1 : decode cX1_load 1 = .ok (.getfield 28, 3) := by decide +kernel
theorem dX1_load_4 : decode cX1_load 4 = .ok (.bipush 8, 2) := by decide +kernel
theorem dX1_load_6 : decode cX1_load 6 = .ok (.if_icmp .ge 10, 3) := by decide +kernel
theorem dX1_load_9 : decode cX1_load 9 = .ok (.aload_n 1, 1) := by decide +kernel
theorem dX1_load_10 : decode cX1_load 10 = .ok (.arraylength, 1) := by decide +kernel
theorem dX1_load_11 : decode cX1_load 11 = .ok (.bipush 6, 2) := by decide +kernel
theorem dX1_load_13 : decode cX1_load 13 = .ok (.if_icmp .ge 5, 3) := by decide +kernel
theorem dX1_load_16 : decode cX1_load 16 = .ok (.iconst (-1), 1) := by decide +kernel
theorem dX1_load_17 : decode cX1_load 17 = .ok (.ireturn, 1) := by decide +kernel
theorem dX1_load_18 : decode cX1_load 18 = .ok (.aload_n 1, 1) := by decide +kernel
theorem dX1_load_19 : decode cX1_load 19 = .ok (.iconst 0, 1) := by decide +kernel
theorem dX1_load_20 : decode cX1_load 20 = .ok (.aload_n 0, 1) := by decide +kernel
theorem dX1_load_21 : decode cX1_load 21 = .ok (.getfield 18, 3) := by decide +kernel
theorem dX1_load_24 : decode cX1_load 24 = .ok (.aload_n 0, 1) := by decide +kernel
theorem dX1_load_25 : decode cX1_load 25 = .ok (.getfield 28, 3) := by decide +kernel
theorem dX1_load_28 : decode cX1_load 28 = .ok (.bipush 6, 2) := by decide +kernel
theorem dX1_load_30 : decode cX1_load 30 = .ok (.imul, 1) := by decide +kernel
theorem dX1_load_31 : decode cX1_load 31 = .ok (.bipush 6, 2) := by decide +kernel
theorem dX1_load_33 : decode cX1_load 33 = .ok (.invokestatic 40, 3) := by decide +kernel
theorem dX1_load_36 : decode cX1_load 36 = .ok (.aload_n 0, 1) := by decide +kernel
theorem dX1_load_37 : decode cX1_load 37 = .ok (.dup, 1) := by decide +kernel
theorem dX1_load_38 : decode cX1_load 38 = .ok (.getfield 31, 3) := by decide +kernel
theorem dX1_load_41 : decode cX1_load 41 = .ok (.iconst 1, 1) := by decide +kernel
theorem dX1_load_42 : decode cX1_load 42 = .ok (.aload_n 0, 1) := by decide +kernel
theorem dX1_load_43 : decode cX1_load 43 = .ok (.getfield 28, 3) := by decide +kernel
theorem dX1_load_46 : decode cX1_load 46 = .ok (.ishl, 1) := by decide +kernel
theorem dX1_load_47 : decode cX1_load 47 = .ok (.ior, 1) := by decide +kernel
theorem dX1_load_48 : decode cX1_load 48 = .ok (.putfield 31, 3) := by decide +kernel
theorem dX1_load_51 : decode cX1_load 51 = .ok (.aload_n 0, 1) := by decide +kernel
theorem dX1_load_52 : decode cX1_load 52 = .ok (.iconst 0, 1) := by decide +kernel
theorem dX1_load_53 : decode cX1_load 53 = .ok (.putfield 34, 3) := by decide +kernel
theorem dX1_load_56 : decode cX1_load 56 = .ok (.aload_n 0, 1) := by decide +kernel
theorem dX1_load_57 : decode cX1_load 57 = .ok (.dup, 1) := by decide +kernel
theorem dX1_load_58 : decode cX1_load 58 = .ok (.getfield 28, 3) := by decide +kernel
theorem dX1_load_61 : decode cX1_load 61 = .ok (.iconst 1, 1) := by decide +kernel
theorem dX1_load_62 : decode cX1_load 62 = .ok (.iadd, 1) := by decide +kernel
theorem dX1_load_63 : decode cX1_load 63 = .ok (.putfield 28, 3) := by decide +kernel
theorem dX1_load_66 : decode cX1_load 66 = .ok (.aload_n 0, 1) := by decide +kernel
theorem dX1_load_67 : decode cX1_load 67 = .ok (.getfield 28, 3) := by decide +kernel
theorem dX1_load_70 : decode cX1_load 70 = .ok (.iconst 1, 1) := by decide +kernel
theorem dX1_load_71 : decode cX1_load 71 = .ok (.isub, 1) := by decide +kernel
theorem dX1_load_72 : decode cX1_load 72 = .ok (.ireturn, 1) := by decide +kernel
theorem dX1_retell_0 : decode cX1_retell 0 = .ok (.aload_n 0, 1) := by decide +kernel
theorem dX1_retell_1 : decode cX1_retell 1 = .ok (.iload_n 1, 1) := by decide +kernel
theorem dX1_retell_2 : decode cX1_retell 2 = .ok (.invokevirtual 46, 3) := by decide +kernel
theorem dX1_retell_5 : decode cX1_retell 5 = .ok (.ifCond .eq 15, 3) := by decide +kernel
theorem dX1_retell_8 : decode cX1_retell 8 = .ok (.aload_n 0, 1) := by decide +kernel
theorem dX1_retell_9 : decode cX1_retell 9 = .ok (.getfield 18, 3) := by decide +kernel
theorem dX1_retell_12 : decode cX1_retell 12 = .ok (.iload_n 1, 1) := by decide +kernel
theorem dX1_retell_13 : decode cX1_retell 13 = .ok (.bipush 6, 2) := by decide +kernel
theorem dX1_retell_15 : decode cX1_retell 15 = .ok (.imul, 1) := by decide +kernel
theorem dX1_retell_16 : decode cX1_retell 16 = .ok (.iconst 5, 1) := by decide +kernel
theorem dX1_retell_17 : decode cX1_retell 17 = .ok (.iadd, 1) := by decide +kernel
theorem dX1_retell_18 : decode cX1_retell 18 = .ok (.iload_n 2, 1) := by decide +kernel
theorem dX1_retell_19 : decode cX1_retell 19 = .ok (.iastore, 1) := by decide +kernel
theorem dX1_retell_20 : decode cX1_retell 20 = .ok (.return_, 1) := by decide +kernel
theorem dX1_sight_0 : decode cX1_sight 0 = .ok (.aload_n 0, 1) := by decide +kernel
theorem dX1_sight_1 : decode cX1_sight 1 = .ok (.getfield 37, 3) := by decide +kernel
theorem dX1_sight_4 : decode cX1_sight 4 = .ok (.bipush 6, 2) := by decide +kernel
theorem dX1_sight_6 : decode cX1_sight 6 = .ok (.if_icmp .ge 9, 3) := by decide +kernel
theorem dX1_sight_9 : decode cX1_sight 9 = .ok (.aload_n 1, 1) := by decide +kernel
theorem dX1_sight_10 : decode cX1_sight 10 = .ok (.arraylength, 1) := by decide +kernel
theorem dX1_sight_11 : decode cX1_sight 11 = .ok (.iconst 3, 1) := by decide +kernel
theorem dX1_sight_12 : decode cX1_sight 12 = .ok (.if_icmp .ge 5, 3) := by decide +kernel
theorem dX1_sight_15 : decode cX1_sight 15 = .ok (.iconst 0, 1) := by decide +kernel
theorem dX1_sight_16 : decode cX1_sight 16 = .ok (.ireturn, 1) := by decide +kernel
theorem dX1_sight_17 : decode cX1_sight 17 = .ok (.aload_n 1, 1) := by decide +kernel
theorem dX1_sight_18 : decode cX1_sight 18 = .ok (.iconst 0, 1) := by decide +kernel
theorem dX1_sight_19 : decode cX1_sight 19 = .ok (.aload_n 0, 1) := by decide +kernel
theorem dX1_sight_20 : decode cX1_sight 20 = .ok (.getfield 25, 3) := by decide +kernel
theorem dX1_sight_23 : decode cX1_sight 23 = .ok (.aload_n 0, 1) := by decide +kernel
theorem dX1_sight_24 : decode cX1_sight 24 = .ok (.getfield 37, 3) := by decide +kernel
theorem dX1_sight_27 : decode cX1_sight 27 = .ok (.iconst 3, 1) := by decide +kernel
theorem dX1_sight_28 : decode cX1_sight 28 = .ok (.imul, 1) := by decide +kernel
theorem dX1_sight_29 : decode cX1_sight 29 = .ok (.iconst 3, 1) := by decide +kernel
theorem dX1_sight_30 : decode cX1_sight 30 = .ok (.invokestatic 40, 3) := by decide +kernel
theorem dX1_sight_33 : decode cX1_sight 33 = .ok (.aload_n 0, 1) := by decide +kernel
theorem dX1_sight_34 : decode cX1_sight 34 = .ok (.dup, 1) := by decide +kernel
theorem dX1_sight_35 : decode cX1_sight 35 = .ok (.getfield 37, 3) := by decide +kernel
theorem dX1_sight_38 : decode cX1_sight 38 = .ok (.iconst 1, 1) := by decide +kernel
theorem dX1_sight_39 : decode cX1_sight 39 = .ok (.iadd, 1) := by decide +kernel
theorem dX1_sight_40 : decode cX1_sight 40 = .ok (.putfield 37, 3) := by decide +kernel
theorem dX1_sight_43 : decode cX1_sight 43 = .ok (.iconst 1, 1) := by decide +kernel
theorem dX1_sight_44 : decode cX1_sight 44 = .ok (.ireturn, 1) := by decide +kernel
theorem dX1_heave_0 : decode cX1_heave 0 = .ok (.aload_n 0, 1) := by decide +kernel
theorem dX1_heave_1 : decode cX1_heave 1 = .ok (.iload_n 1, 1) := by decide +kernel
theorem dX1_heave_2 : decode cX1_heave 2 = .ok (.invokevirtual 46, 3) := by decide +kernel
theorem dX1_heave_5 : decode cX1_heave 5 = .ok (.ifCond .eq 46, 3) := by decide +kernel
theorem dX1_heave_8 : decode cX1_heave 8 = .ok (.aload_n 0, 1) := by decide +kernel
theorem dX1_heave_9 : decode cX1_heave 9 = .ok (.getfield 34, 3) := by decide +kernel
theorem dX1_heave_12 : decode cX1_heave 12 = .ok (.bipush 8, 2) := by decide +kernel
theorem dX1_heave_14 : decode cX1_heave 14 = .ok (.if_icmp .ge 37, 3) := by decide +kernel
theorem dX1_heave_17 : decode cX1_heave 17 = .ok (.aload_n 0, 1) := by decide +kernel
theorem dX1_heave_18 : decode cX1_heave 18 = .ok (.dup, 1) := by decide +kernel
theorem dX1_heave_19 : decode cX1_heave 19 = .ok (.getfield 31, 3) := by decide +kernel
theorem dX1_heave_22 : decode cX1_heave 22 = .ok (.iconst 1, 1) := by decide +kernel
theorem dX1_heave_23 : decode cX1_heave 23 = .ok (.iload_n 1, 1) := by decide +kernel
theorem dX1_heave_24 : decode cX1_heave 24 = .ok (.ishl, 1) := by decide +kernel
theorem dX1_heave_25 : decode cX1_heave 25 = .ok (.iconst (-1), 1) := by decide +kernel
theorem dX1_heave_26 : decode cX1_heave 26 = .ok (.ixor, 1) := by decide +kernel
theorem dX1_heave_27 : decode cX1_heave 27 = .ok (.iand, 1) := by decide +kernel
theorem dX1_heave_28 : decode cX1_heave 28 = .ok (.putfield 31, 3) := by decide +kernel
theorem dX1_heave_31 : decode cX1_heave 31 = .ok (.aload_n 0, 1) := by decide +kernel
theorem dX1_heave_32 : decode cX1_heave 32 = .ok (.getfield 22, 3) := by decide +kernel
theorem dX1_heave_35 : decode cX1_heave 35 = .ok (.aload_n 0, 1) := by decide +kernel
theorem dX1_heave_36 : decode cX1_heave 36 = .ok (.getfield 34, 3) := by decide +kernel
theorem dX1_heave_39 : decode cX1_heave 39 = .ok (.iload_n 1, 1) := by decide +kernel
theorem dX1_heave_40 : decode cX1_heave 40 = .ok (.iastore, 1) := by decide +kernel
theorem dX1_heave_41 : decode cX1_heave 41 = .ok (.aload_n 0, 1) := by decide +kernel
theorem dX1_heave_42 : decode cX1_heave 42 = .ok (.dup, 1) := by decide +kernel
theorem dX1_heave_43 : decode cX1_heave 43 = .ok (.getfield 34, 3) := by decide +kernel
theorem dX1_heave_46 : decode cX1_heave 46 = .ok (.iconst 1, 1) := by decide +kernel
theorem dX1_heave_47 : decode cX1_heave 47 = .ok (.iadd, 1) := by decide +kernel
theorem dX1_heave_48 : decode cX1_heave 48 = .ok (.putfield 34, 3) := by decide +kernel
theorem dX1_heave_51 : decode cX1_heave 51 = .ok (.return_, 1) := by decide +kernel
theorem dX1_takeBack_0 : decode cX1_takeBack 0 = .ok (.aload_n 0, 1) := by decide +kernel
theorem dX1_takeBack_1 : decode cX1_takeBack 1 = .ok (.getfield 34, 3) := by decide +kernel
theorem dX1_takeBack_4 : decode cX1_takeBack 4 = .ok (.iconst 1, 1) := by decide +kernel
theorem dX1_takeBack_5 : decode cX1_takeBack 5 = .ok (.bipush 8, 2) := by decide +kernel
theorem dX1_takeBack_7 : decode cX1_takeBack 7 = .ok (.invokestatic 50, 3) := by decide +kernel
theorem dX1_takeBack_10 : decode cX1_takeBack 10 = .ok (.ifCond .ne 5, 3) := by decide +kernel
theorem dX1_takeBack_13 : decode cX1_takeBack 13 = .ok (.iconst 0, 1) := by decide +kernel
theorem dX1_takeBack_14 : decode cX1_takeBack 14 = .ok (.ireturn, 1) := by decide +kernel
theorem dX1_takeBack_15 : decode cX1_takeBack 15 = .ok (.aload_n 0, 1) := by decide +kernel
theorem dX1_takeBack_16 : decode cX1_takeBack 16 = .ok (.dup, 1) := by decide +kernel
theorem dX1_takeBack_17 : decode cX1_takeBack 17 = .ok (.getfield 34, 3) := by decide +kernel
theorem dX1_takeBack_20 : decode cX1_takeBack 20 = .ok (.iconst 1, 1) := by decide +kernel
theorem dX1_takeBack_21 : decode cX1_takeBack 21 = .ok (.isub, 1) := by decide +kernel
theorem dX1_takeBack_22 : decode cX1_takeBack 22 = .ok (.putfield 34, 3) := by decide +kernel
theorem dX1_takeBack_25 : decode cX1_takeBack 25 = .ok (.aload_n 0, 1) := by decide +kernel
theorem dX1_takeBack_26 : decode cX1_takeBack 26 = .ok (.dup, 1) := by decide +kernel
theorem dX1_takeBack_27 : decode cX1_takeBack 27 = .ok (.getfield 31, 3) := by decide +kernel
theorem dX1_takeBack_30 : decode cX1_takeBack 30 = .ok (.iconst 1, 1) := by decide +kernel
theorem dX1_takeBack_31 : decode cX1_takeBack 31 = .ok (.aload_n 0, 1) := by decide +kernel
theorem dX1_takeBack_32 : decode cX1_takeBack 32 = .ok (.getfield 22, 3) := by decide +kernel
theorem dX1_takeBack_35 : decode cX1_takeBack 35 = .ok (.aload_n 0, 1) := by decide +kernel
theorem dX1_takeBack_36 : decode cX1_takeBack 36 = .ok (.getfield 34, 3) := by decide +kernel
theorem dX1_takeBack_39 : decode cX1_takeBack 39 = .ok (.iaload, 1) := by decide +kernel
theorem dX1_takeBack_40 : decode cX1_takeBack 40 = .ok (.ishl, 1) := by decide +kernel
theorem dX1_takeBack_41 : decode cX1_takeBack 41 = .ok (.ior, 1) := by decide +kernel
theorem dX1_takeBack_42 : decode cX1_takeBack 42 = .ok (.putfield 31, 3) := by decide +kernel
theorem dX1_takeBack_45 : decode cX1_takeBack 45 = .ok (.iconst 1, 1) := by decide +kernel
theorem dX1_takeBack_46 : decode cX1_takeBack 46 = .ok (.ireturn, 1) := by decide +kernel
theorem dX1_isTop_0 : decode cX1_isTop 0 = .ok (.aload_n 0, 1) := by decide +kernel
theorem dX1_isTop_1 : decode cX1_isTop 1 = .ok (.iload_n 1, 1) := by decide +kernel
theorem dX1_isTop_2 : decode cX1_isTop 2 = .ok (.invokevirtual 46, 3) := by decide +kernel
theorem dX1_isTop_5 : decode cX1_isTop 5 = .ok (.ifCond .eq 11, 3) := by decide +kernel
theorem dX1_isTop_8 : decode cX1_isTop 8 = .ok (.iload_n 2, 1) := by decide +kernel
theorem dX1_isTop_9 : decode cX1_isTop 9 = .ok (.iload_n 1, 1) := by decide +kernel
theorem dX1_isTop_10 : decode cX1_isTop 10 = .ok (.invokestatic 54, 3) := by decide +kernel
theorem dX1_isTop_13 : decode cX1_isTop 13 = .ok (.ifCond .ne 5, 3) := by decide +kernel
theorem dX1_isTop_16 : decode cX1_isTop 16 = .ok (.iconst 0, 1) := by decide +kernel
theorem dX1_isTop_17 : decode cX1_isTop 17 = .ok (.ireturn, 1) := by decide +kernel
theorem dX1_isTop_18 : decode cX1_isTop 18 = .ok (.iload_n 1, 1) := by decide +kernel
theorem dX1_isTop_19 : decode cX1_isTop 19 = .ok (.iconst 1, 1) := by decide +kernel
theorem dX1_isTop_20 : decode cX1_isTop 20 = .ok (.iadd, 1) := by decide +kernel
theorem dX1_isTop_21 : decode cX1_isTop 21 = .ok (.istore_n 3, 1) := by decide +kernel
theorem dX1_isTop_22 : decode cX1_isTop 22 = .ok (.iload_n 3, 1) := by decide +kernel
theorem dX1_isTop_23 : decode cX1_isTop 23 = .ok (.aload_n 0, 1) := by decide +kernel
theorem dX1_isTop_24 : decode cX1_isTop 24 = .ok (.getfield 28, 3) := by decide +kernel
theorem dX1_isTop_27 : decode cX1_isTop 27 = .ok (.if_icmp .ge 34, 3) := by decide +kernel
theorem dX1_isTop_30 : decode cX1_isTop 30 = .ok (.iload_n 2, 1) := by decide +kernel
theorem dX1_isTop_31 : decode cX1_isTop 31 = .ok (.iload_n 3, 1) := by decide +kernel
theorem dX1_isTop_32 : decode cX1_isTop 32 = .ok (.invokestatic 54, 3) := by decide +kernel
theorem dX1_isTop_35 : decode cX1_isTop 35 = .ok (.ifCond .eq 20, 3) := by decide +kernel
theorem dX1_isTop_38 : decode cX1_isTop 38 = .ok (.aload_n 0, 1) := by decide +kernel
theorem dX1_isTop_39 : decode cX1_isTop 39 = .ok (.iload_n 3, 1) := by decide +kernel
theorem dX1_isTop_40 : decode cX1_isTop 40 = .ok (.iconst 2, 1) := by decide +kernel
theorem dX1_isTop_41 : decode cX1_isTop 41 = .ok (.invokevirtual 58, 3) := by decide +kernel
theorem dX1_isTop_44 : decode cX1_isTop 44 = .ok (.aload_n 0, 1) := by decide +kernel
theorem dX1_isTop_45 : decode cX1_isTop 45 = .ok (.iload_n 1, 1) := by decide +kernel
theorem dX1_isTop_46 : decode cX1_isTop 46 = .ok (.iconst 2, 1) := by decide +kernel
theorem dX1_isTop_47 : decode cX1_isTop 47 = .ok (.invokevirtual 58, 3) := by decide +kernel
theorem dX1_isTop_50 : decode cX1_isTop 50 = .ok (.if_icmp .ne 5, 3) := by decide +kernel
theorem dX1_isTop_53 : decode cX1_isTop 53 = .ok (.iconst 0, 1) := by decide +kernel
theorem dX1_isTop_54 : decode cX1_isTop 54 = .ok (.ireturn, 1) := by decide +kernel
theorem dX1_isTop_55 : decode cX1_isTop 55 = .ok (.iinc 3 1, 3) := by decide +kernel
theorem dX1_isTop_58 : decode cX1_isTop 58 = .ok (.goto (-36), 3) := by decide +kernel
theorem dX1_isTop_61 : decode cX1_isTop 61 = .ok (.iconst 1, 1) := by decide +kernel
theorem dX1_isTop_62 : decode cX1_isTop 62 = .ok (.ireturn, 1) := by decide +kernel
theorem dX1_firstTop_0 : decode cX1_firstTop 0 = .ok (.iconst 0, 1) := by decide +kernel
theorem dX1_firstTop_1 : decode cX1_firstTop 1 = .ok (.istore_n 3, 1) := by decide +kernel
theorem dX1_firstTop_2 : decode cX1_firstTop 2 = .ok (.iload_n 3, 1) := by decide +kernel
theorem dX1_firstTop_3 : decode cX1_firstTop 3 = .ok (.aload_n 0, 1) := by decide +kernel
theorem dX1_firstTop_4 : decode cX1_firstTop 4 = .ok (.getfield 28, 3) := by decide +kernel
theorem dX1_firstTop_7 : decode cX1_firstTop 7 = .ok (.if_icmp .ge 28, 3) := by decide +kernel
theorem dX1_firstTop_10 : decode cX1_firstTop 10 = .ok (.iload_n 1, 1) := by decide +kernel
theorem dX1_firstTop_11 : decode cX1_firstTop 11 = .ok (.iload_n 3, 1) := by decide +kernel
theorem dX1_firstTop_12 : decode cX1_firstTop 12 = .ok (.invokestatic 54, 3) := by decide +kernel
theorem dX1_firstTop_15 : decode cX1_firstTop 15 = .ok (.ifCond .eq 14, 3) := by decide +kernel
theorem dX1_firstTop_18 : decode cX1_firstTop 18 = .ok (.aload_n 0, 1) := by decide +kernel
theorem dX1_firstTop_19 : decode cX1_firstTop 19 = .ok (.iload_n 3, 1) := by decide +kernel
theorem dX1_firstTop_20 : decode cX1_firstTop 20 = .ok (.iload_n 2, 1) := by decide +kernel
theorem dX1_firstTop_21 : decode cX1_firstTop 21 = .ok (.invokevirtual 62, 3) := by decide +kernel
theorem dX1_firstTop_24 : decode cX1_firstTop 24 = .ok (.ifCond .eq 5, 3) := by decide +kernel
theorem dX1_firstTop_27 : decode cX1_firstTop 27 = .ok (.iload_n 3, 1) := by decide +kernel
theorem dX1_firstTop_28 : decode cX1_firstTop 28 = .ok (.ireturn, 1) := by decide +kernel
theorem dX1_firstTop_29 : decode cX1_firstTop 29 = .ok (.iinc 3 1, 3) := by decide +kernel
theorem dX1_firstTop_32 : decode cX1_firstTop 32 = .ok (.goto (-30), 3) := by decide +kernel
theorem dX1_firstTop_35 : decode cX1_firstTop 35 = .ok (.iconst (-1), 1) := by decide +kernel
theorem dX1_firstTop_36 : decode cX1_firstTop 36 = .ok (.ireturn, 1) := by decide +kernel
theorem dX1_total_0 : decode cX1_total 0 = .ok (.iconst 0, 1) := by decide +kernel
theorem dX1_total_1 : decode cX1_total 1 = .ok (.istore_n 3, 1) := by decide +kernel
theorem dX1_total_2 : decode cX1_total 2 = .ok (.iconst 0, 1) := by decide +kernel
theorem dX1_total_3 : decode cX1_total 3 = .ok (.istore 4, 2) := by decide +kernel
theorem dX1_total_5 : decode cX1_total 5 = .ok (.iload 4, 2) := by decide +kernel
theorem dX1_total_7 : decode cX1_total 7 = .ok (.aload_n 0, 1) := by decide +kernel
theorem dX1_total_8 : decode cX1_total 8 = .ok (.getfield 28, 3) := by decide +kernel
theorem dX1_total_11 : decode cX1_total 11 = .ok (.if_icmp .ge 28, 3) := by decide +kernel
theorem dX1_total_14 : decode cX1_total 14 = .ok (.iload_n 1, 1) := by decide +kernel
theorem dX1_total_15 : decode cX1_total 15 = .ok (.iload 4, 2) := by decide +kernel
theorem dX1_total_17 : decode cX1_total 17 = .ok (.invokestatic 54, 3) := by decide +kernel
theorem dX1_total_20 : decode cX1_total 20 = .ok (.ifCond .eq 13, 3) := by decide +kernel
theorem dX1_total_23 : decode cX1_total 23 = .ok (.iload_n 3, 1) := by decide +kernel
theorem dX1_total_24 : decode cX1_total 24 = .ok (.aload_n 0, 1) := by decide +kernel
theorem dX1_total_25 : decode cX1_total 25 = .ok (.iload 4, 2) := by decide +kernel
theorem dX1_total_27 : decode cX1_total 27 = .ok (.iload_n 2, 1) := by decide +kernel
theorem dX1_total_28 : decode cX1_total 28 = .ok (.invokevirtual 58, 3) := by decide +kernel
theorem dX1_total_31 : decode cX1_total 31 = .ok (.iadd, 1) := by decide +kernel
theorem dX1_total_32 : decode cX1_total 32 = .ok (.istore_n 3, 1) := by decide +kernel
theorem dX1_total_33 : decode cX1_total 33 = .ok (.iinc 4 1, 3) := by decide +kernel
theorem dX1_total_36 : decode cX1_total 36 = .ok (.goto (-31), 3) := by decide +kernel
theorem dX1_total_39 : decode cX1_total 39 = .ok (.iload_n 3, 1) := by decide +kernel
theorem dX1_total_40 : decode cX1_total 40 = .ok (.ireturn, 1) := by decide +kernel
theorem dX1_outlives_0 : decode cX1_outlives 0 = .ok (.aload_n 0, 1) := by decide +kernel
theorem dX1_outlives_1 : decode cX1_outlives 1 = .ok (.iload_n 2, 1) := by decide +kernel
theorem dX1_outlives_2 : decode cX1_outlives 2 = .ok (.iconst 3, 1) := by decide +kernel
theorem dX1_outlives_3 : decode cX1_outlives 3 = .ok (.invokevirtual 65, 3) := by decide +kernel
theorem dX1_outlives_6 : decode cX1_outlives 6 = .ok (.aload_n 0, 1) := by decide +kernel
theorem dX1_outlives_7 : decode cX1_outlives 7 = .ok (.getfield 15, 3) := by decide +kernel
theorem dX1_outlives_10 : decode cX1_outlives 10 = .ok (.iload_n 1, 1) := by decide +kernel
theorem dX1_outlives_11 : decode cX1_outlives 11 = .ok (.isub, 1) := by decide +kernel
theorem dX1_outlives_12 : decode cX1_outlives 12 = .ok (.if_icmp .gt 7, 3) := by decide +kernel
theorem dX1_outlives_15 : decode cX1_outlives 15 = .ok (.iconst 1, 1) := by decide +kernel
theorem dX1_outlives_16 : decode cX1_outlives 16 = .ok (.goto 4, 3) := by decide +kernel
theorem dX1_outlives_19 : decode cX1_outlives 19 = .ok (.iconst 0, 1) := by decide +kernel
theorem dX1_outlives_20 : decode cX1_outlives 20 = .ok (.ireturn, 1) := by decide +kernel
theorem dX1_gone_0 : decode cX1_gone 0 = .ok (.iconst 1, 1) := by decide +kernel
theorem dX1_gone_1 : decode cX1_gone 1 = .ok (.aload_n 0, 1) := by decide +kernel
theorem dX1_gone_2 : decode cX1_gone 2 = .ok (.getfield 28, 3) := by decide +kernel
theorem dX1_gone_5 : decode cX1_gone 5 = .ok (.ishl, 1) := by decide +kernel
theorem dX1_gone_6 : decode cX1_gone 6 = .ok (.iconst 1, 1) := by decide +kernel
theorem dX1_gone_7 : decode cX1_gone 7 = .ok (.isub, 1) := by decide +kernel
theorem dX1_gone_8 : decode cX1_gone 8 = .ok (.aload_n 0, 1) := by decide +kernel
theorem dX1_gone_9 : decode cX1_gone 9 = .ok (.getfield 31, 3) := by decide +kernel
theorem dX1_gone_12 : decode cX1_gone 12 = .ok (.iconst (-1), 1) := by decide +kernel
theorem dX1_gone_13 : decode cX1_gone 13 = .ok (.ixor, 1) := by decide +kernel
theorem dX1_gone_14 : decode cX1_gone 14 = .ok (.iand, 1) := by decide +kernel
theorem dX1_gone_15 : decode cX1_gone 15 = .ok (.ireturn, 1) := by decide +kernel
theorem dX1_fitting_0 : decode cX1_fitting 0 = .ok (.aload_n 0, 1) := by decide +kernel
theorem dX1_fitting_1 : decode cX1_fitting 1 = .ok (.invokevirtual 68, 3) := by decide +kernel
theorem dX1_fitting_4 : decode cX1_fitting 4 = .ok (.istore_n 1, 1) := by decide +kernel
theorem dX1_fitting_5 : decode cX1_fitting 5 = .ok (.iconst 0, 1) := by decide +kernel
theorem dX1_fitting_6 : decode cX1_fitting 6 = .ok (.istore_n 2, 1) := by decide +kernel
theorem dX1_fitting_7 : decode cX1_fitting 7 = .ok (.iconst 0, 1) := by decide +kernel
theorem dX1_fitting_8 : decode cX1_fitting 8 = .ok (.istore_n 3, 1) := by decide +kernel
theorem dX1_fitting_9 : decode cX1_fitting 9 = .ok (.iload_n 3, 1) := by decide +kernel
theorem dX1_fitting_10 : decode cX1_fitting 10 = .ok (.aload_n 0, 1) := by decide +kernel
theorem dX1_fitting_11 : decode cX1_fitting 11 = .ok (.getfield 28, 3) := by decide +kernel
theorem dX1_fitting_14 : decode cX1_fitting 14 = .ok (.if_icmp .ge 31, 3) := by decide +kernel
theorem dX1_fitting_17 : decode cX1_fitting 17 = .ok (.iload_n 1, 1) := by decide +kernel
theorem dX1_fitting_18 : decode cX1_fitting 18 = .ok (.iload_n 3, 1) := by decide +kernel
theorem dX1_fitting_19 : decode cX1_fitting 19 = .ok (.invokestatic 54, 3) := by decide +kernel
theorem dX1_fitting_22 : decode cX1_fitting 22 = .ok (.ifCond .eq 17, 3) := by decide +kernel
theorem dX1_fitting_25 : decode cX1_fitting 25 = .ok (.aload_n 0, 1) := by decide +kernel
theorem dX1_fitting_26 : decode cX1_fitting 26 = .ok (.iload_n 3, 1) := by decide +kernel
theorem dX1_fitting_27 : decode cX1_fitting 27 = .ok (.invokevirtual 72, 3) := by decide +kernel
theorem dX1_fitting_30 : decode cX1_fitting 30 = .ok (.ifCond .eq 9, 3) := by decide +kernel
theorem dX1_fitting_33 : decode cX1_fitting 33 = .ok (.iload_n 2, 1) := by decide +kernel
theorem dX1_fitting_34 : decode cX1_fitting 34 = .ok (.iconst 1, 1) := by decide +kernel
theorem dX1_fitting_35 : decode cX1_fitting 35 = .ok (.iload_n 3, 1) := by decide +kernel
theorem dX1_fitting_36 : decode cX1_fitting 36 = .ok (.ishl, 1) := by decide +kernel
theorem dX1_fitting_37 : decode cX1_fitting 37 = .ok (.ior, 1) := by decide +kernel
theorem dX1_fitting_38 : decode cX1_fitting 38 = .ok (.istore_n 2, 1) := by decide +kernel
theorem dX1_fitting_39 : decode cX1_fitting 39 = .ok (.iinc 3 1, 3) := by decide +kernel
theorem dX1_fitting_42 : decode cX1_fitting 42 = .ok (.goto (-33), 3) := by decide +kernel
theorem dX1_fitting_45 : decode cX1_fitting 45 = .ok (.iload_n 2, 1) := by decide +kernel
theorem dX1_fitting_46 : decode cX1_fitting 46 = .ok (.ireturn, 1) := by decide +kernel
theorem dX1_fitsAll_0 : decode cX1_fitsAll 0 = .ok (.iconst 0, 1) := by decide +kernel
theorem dX1_fitsAll_1 : decode cX1_fitsAll 1 = .ok (.istore_n 2, 1) := by decide +kernel
theorem dX1_fitsAll_2 : decode cX1_fitsAll 2 = .ok (.iload_n 2, 1) := by decide +kernel
theorem dX1_fitsAll_3 : decode cX1_fitsAll 3 = .ok (.aload_n 0, 1) := by decide +kernel
theorem dX1_fitsAll_4 : decode cX1_fitsAll 4 = .ok (.getfield 37, 3) := by decide +kernel
theorem dX1_fitsAll_7 : decode cX1_fitsAll 7 = .ok (.if_icmp .ge 63, 3) := by decide +kernel
theorem dX1_fitsAll_10 : decode cX1_fitsAll 10 = .ok (.aload_n 0, 1) := by decide +kernel
theorem dX1_fitsAll_11 : decode cX1_fitsAll 11 = .ok (.iload_n 2, 1) := by decide +kernel
theorem dX1_fitsAll_12 : decode cX1_fitsAll 12 = .ok (.iconst 2, 1) := by decide +kernel
theorem dX1_fitsAll_13 : decode cX1_fitsAll 13 = .ok (.invokevirtual 75, 3) := by decide +kernel
theorem dX1_fitsAll_16 : decode cX1_fitsAll 16 = .ok (.istore_n 3, 1) := by decide +kernel
theorem dX1_fitsAll_17 : decode cX1_fitsAll 17 = .ok (.aload_n 0, 1) := by decide +kernel
theorem dX1_fitsAll_18 : decode cX1_fitsAll 18 = .ok (.iload_n 1, 1) := by decide +kernel
theorem dX1_fitsAll_19 : decode cX1_fitsAll 19 = .ok (.iconst 3, 1) := by decide +kernel
theorem dX1_fitsAll_20 : decode cX1_fitsAll 20 = .ok (.invokevirtual 58, 3) := by decide +kernel
theorem dX1_fitsAll_23 : decode cX1_fitsAll 23 = .ok (.aload_n 0, 1) := by decide +kernel
theorem dX1_fitsAll_24 : decode cX1_fitsAll 24 = .ok (.iload_n 2, 1) := by decide +kernel
theorem dX1_fitsAll_25 : decode cX1_fitsAll 25 = .ok (.iconst 0, 1) := by decide +kernel
theorem dX1_fitsAll_26 : decode cX1_fitsAll 26 = .ok (.invokevirtual 75, 3) := by decide +kernel
theorem dX1_fitsAll_29 : decode cX1_fitsAll 29 = .ok (.if_icmp .lt 33, 3) := by decide +kernel
theorem dX1_fitsAll_32 : decode cX1_fitsAll 32 = .ok (.aload_n 0, 1) := by decide +kernel
theorem dX1_fitsAll_33 : decode cX1_fitsAll 33 = .ok (.iload_n 1, 1) := by decide +kernel
theorem dX1_fitsAll_34 : decode cX1_fitsAll 34 = .ok (.iconst 4, 1) := by decide +kernel
theorem dX1_fitsAll_35 : decode cX1_fitsAll 35 = .ok (.invokevirtual 58, 3) := by decide +kernel
theorem dX1_fitsAll_38 : decode cX1_fitsAll 38 = .ok (.aload_n 0, 1) := by decide +kernel
theorem dX1_fitsAll_39 : decode cX1_fitsAll 39 = .ok (.iload_n 2, 1) := by decide +kernel
theorem dX1_fitsAll_40 : decode cX1_fitsAll 40 = .ok (.iconst 1, 1) := by decide +kernel
theorem dX1_fitsAll_41 : decode cX1_fitsAll 41 = .ok (.invokevirtual 75, 3) := by decide +kernel
theorem dX1_fitsAll_44 : decode cX1_fitsAll 44 = .ok (.if_icmp .gt 18, 3) := by decide +kernel
theorem dX1_fitsAll_47 : decode cX1_fitsAll 47 = .ok (.iload_n 3, 1) := by decide +kernel
theorem dX1_fitsAll_48 : decode cX1_fitsAll 48 = .ok (.iconst 3, 1) := by decide +kernel
theorem dX1_fitsAll_49 : decode cX1_fitsAll 49 = .ok (.if_icmp .eq 15, 3) := by decide +kernel
theorem dX1_fitsAll_52 : decode cX1_fitsAll 52 = .ok (.iload_n 3, 1) := by decide +kernel
theorem dX1_fitsAll_53 : decode cX1_fitsAll 53 = .ok (.aload_n 0, 1) := by decide +kernel
theorem dX1_fitsAll_54 : decode cX1_fitsAll 54 = .ok (.iload_n 1, 1) := by decide +kernel
theorem dX1_fitsAll_55 : decode cX1_fitsAll 55 = .ok (.iconst 2, 1) := by decide +kernel
theorem dX1_fitsAll_56 : decode cX1_fitsAll 56 = .ok (.invokevirtual 58, 3) := by decide +kernel
theorem dX1_fitsAll_59 : decode cX1_fitsAll 59 = .ok (.if_icmp .eq 5, 3) := by decide +kernel
theorem dX1_fitsAll_62 : decode cX1_fitsAll 62 = .ok (.iconst 0, 1) := by decide +kernel
theorem dX1_fitsAll_63 : decode cX1_fitsAll 63 = .ok (.ireturn, 1) := by decide +kernel
theorem dX1_fitsAll_64 : decode cX1_fitsAll 64 = .ok (.iinc 2 1, 3) := by decide +kernel
theorem dX1_fitsAll_67 : decode cX1_fitsAll 67 = .ok (.goto (-65), 3) := by decide +kernel
theorem dX1_fitsAll_70 : decode cX1_fitsAll 70 = .ok (.iconst 1, 1) := by decide +kernel
theorem dX1_fitsAll_71 : decode cX1_fitsAll 71 = .ok (.ireturn, 1) := by decide +kernel
theorem dX1_countWith_0 : decode cX1_countWith 0 = .ok (.iconst 0, 1) := by decide +kernel
theorem dX1_countWith_1 : decode cX1_countWith 1 = .ok (.istore 4, 2) := by decide +kernel
theorem dX1_countWith_3 : decode cX1_countWith 3 = .ok (.iconst 0, 1) := by decide +kernel
theorem dX1_countWith_4 : decode cX1_countWith 4 = .ok (.istore 5, 2) := by decide +kernel
theorem dX1_countWith_6 : decode cX1_countWith 6 = .ok (.iload 5, 2) := by decide +kernel
theorem dX1_countWith_8 : decode cX1_countWith 8 = .ok (.aload_n 0, 1) := by decide +kernel
theorem dX1_countWith_9 : decode cX1_countWith 9 = .ok (.getfield 28, 3) := by decide +kernel
theorem dX1_countWith_12 : decode cX1_countWith 12 = .ok (.if_icmp .ge 32, 3) := by decide +kernel
theorem dX1_countWith_15 : decode cX1_countWith 15 = .ok (.iload_n 1, 1) := by decide +kernel
theorem dX1_countWith_16 : decode cX1_countWith 16 = .ok (.iload 5, 2) := by decide +kernel
theorem dX1_countWith_18 : decode cX1_countWith 18 = .ok (.invokestatic 54, 3) := by decide +kernel
theorem dX1_countWith_21 : decode cX1_countWith 21 = .ok (.ifCond .eq 17, 3) := by decide +kernel
theorem dX1_countWith_24 : decode cX1_countWith 24 = .ok (.aload_n 0, 1) := by decide +kernel
theorem dX1_countWith_25 : decode cX1_countWith 25 = .ok (.iload 5, 2) := by decide +kernel
theorem dX1_countWith_27 : decode cX1_countWith 27 = .ok (.iload_n 2, 1) := by decide +kernel
theorem dX1_countWith_28 : decode cX1_countWith 28 = .ok (.invokevirtual 58, 3) := by decide +kernel
theorem dX1_countWith_31 : decode cX1_countWith 31 = .ok (.iload_n 3, 1) := by decide +kernel
theorem dX1_countWith_32 : decode cX1_countWith 32 = .ok (.if_icmp .ne 6, 3) := by decide +kernel
theorem dX1_countWith_35 : decode cX1_countWith 35 = .ok (.iinc 4 1, 3) := by decide +kernel
theorem dX1_countWith_38 : decode cX1_countWith 38 = .ok (.iinc 5 1, 3) := by decide +kernel
theorem dX1_countWith_41 : decode cX1_countWith 41 = .ok (.goto (-35), 3) := by decide +kernel
theorem dX1_countWith_44 : decode cX1_countWith 44 = .ok (.iload 4, 2) := by decide +kernel
theorem dX1_countWith_46 : decode cX1_countWith 46 = .ok (.ireturn, 1) := by decide +kernel
theorem dX2_init_0 : decode cX2_init 0 = .ok (.aload_n 0, 1) := by decide +kernel
theorem dX2_init_1 : decode cX2_init 1 = .ok (.invokespecial 1, 3) := by decide +kernel
theorem dX2_init_4 : decode cX2_init 4 = .ok (.return_, 1) := by decide +kernel
theorem dX2_madeGood_0 : decode cX2_madeGood 0 = .ok (.iconst 0, 1) := by decide +kernel
theorem dX2_madeGood_1 : decode cX2_madeGood 1 = .ok (.ireturn, 1) := by decide +kernel
theorem dX3_init_0 : decode cX3_init 0 = .ok (.aload_n 0, 1) := by decide +kernel
theorem dX3_init_1 : decode cX3_init 1 = .ok (.invokespecial 1, 3) := by decide +kernel
theorem dX3_init_4 : decode cX3_init 4 = .ok (.aload_n 0, 1) := by decide +kernel
theorem dX3_init_5 : decode cX3_init 5 = .ok (.lconst 1, 1) := by decide +kernel
theorem dX3_init_6 : decode cX3_init 6 = .ok (.putfield 7, 3) := by decide +kernel
theorem dX3_init_9 : decode cX3_init 9 = .ok (.return_, 1) := by decide +kernel
theorem dX3_become_0 : decode cX3_become 0 = .ok (.lload_n 1, 1) := by decide +kernel
theorem dX3_become_1 : decode cX3_become 1 = .ok (.invokestatic 13, 3) := by decide +kernel
theorem dX3_become_4 : decode cX3_become 4 = .ok (.lload_n 3, 1) := by decide +kernel
theorem dX3_become_5 : decode cX3_become 5 = .ok (.invokestatic 19, 3) := by decide +kernel
theorem dX3_become_8 : decode cX3_become 8 = .ok (.lstore 5, 2) := by decide +kernel
theorem dX3_become_10 : decode cX3_become 10 = .ok (.lload 5, 2) := by decide +kernel
theorem dX3_become_12 : decode cX3_become 12 = .ok (.lconst 0, 1) := by decide +kernel
theorem dX3_become_13 : decode cX3_become 13 = .ok (.lcmp, 1) := by decide +kernel
theorem dX3_become_14 : decode cX3_become 14 = .ok (.ifCond .le 19, 3) := by decide +kernel
theorem dX3_become_17 : decode cX3_become 17 = .ok (.aload_n 0, 1) := by decide +kernel
theorem dX3_become_18 : decode cX3_become 18 = .ok (.lload_n 1, 1) := by decide +kernel
theorem dX3_become_19 : decode cX3_become 19 = .ok (.lload 5, 2) := by decide +kernel
theorem dX3_become_21 : decode cX3_become 21 = .ok (.ldiv, 1) := by decide +kernel
theorem dX3_become_22 : decode cX3_become 22 = .ok (.putfield 23, 3) := by decide +kernel
theorem dX3_become_25 : decode cX3_become 25 = .ok (.aload_n 0, 1) := by decide +kernel
theorem dX3_become_26 : decode cX3_become 26 = .ok (.lload_n 3, 1) := by decide +kernel
theorem dX3_become_27 : decode cX3_become 27 = .ok (.lload 5, 2) := by decide +kernel
theorem dX3_become_29 : decode cX3_become 29 = .ok (.ldiv, 1) := by decide +kernel
theorem dX3_become_30 : decode cX3_become 30 = .ok (.putfield 7, 3) := by decide +kernel
theorem dX3_become_33 : decode cX3_become 33 = .ok (.return_, 1) := by decide +kernel
theorem dX3_greatestCommon_0 : decode cX3_greatestCommon 0 = .ok (.iconst 0, 1) := by decide +kernel
theorem dX3_greatestCommon_1 : decode cX3_greatestCommon 1 = .ok (.istore 4, 2) := by decide +kernel
theorem dX3_greatestCommon_3 : decode cX3_greatestCommon 3 = .ok (.iload 4, 2) := by decide +kernel
theorem dX3_greatestCommon_5 : decode cX3_greatestCommon 5 = .ok (.bipush 100, 2) := by decide +kernel
theorem dX3_greatestCommon_7 : decode cX3_greatestCommon 7 = .ok (.if_icmp .ge 25, 3) := by decide +kernel
theorem dX3_greatestCommon_10 : decode cX3_greatestCommon 10 = .ok (.lload_n 2, 1) := by decide +kernel
theorem dX3_greatestCommon_11 : decode cX3_greatestCommon 11 = .ok (.lconst 0, 1) := by decide +kernel
theorem dX3_greatestCommon_12 : decode cX3_greatestCommon 12 = .ok (.lcmp, 1) := by decide +kernel
theorem dX3_greatestCommon_13 : decode cX3_greatestCommon 13 = .ok (.ifCond .eq 19, 3) := by decide +kernel
theorem dX3_greatestCommon_16 : decode cX3_greatestCommon 16 = .ok (.lload_n 0, 1) := by decide +kernel
theorem dX3_greatestCommon_17 : decode cX3_greatestCommon 17 = .ok (.lload_n 2, 1) := by decide +kernel
theorem dX3_greatestCommon_18 : decode cX3_greatestCommon 18 = .ok (.lrem, 1) := by decide +kernel
theorem dX3_greatestCommon_19 : decode cX3_greatestCommon 19 = .ok (.lstore 5, 2) := by decide +kernel
theorem dX3_greatestCommon_21 : decode cX3_greatestCommon 21 = .ok (.lload_n 2, 1) := by decide +kernel
theorem dX3_greatestCommon_22 : decode cX3_greatestCommon 22 = .ok (.lstore_n 0, 1) := by decide +kernel
theorem dX3_greatestCommon_23 : decode cX3_greatestCommon 23 = .ok (.lload 5, 2) := by decide +kernel
theorem dX3_greatestCommon_25 : decode cX3_greatestCommon 25 = .ok (.lstore_n 2, 1) := by decide +kernel
theorem dX3_greatestCommon_26 : decode cX3_greatestCommon 26 = .ok (.iinc 4 1, 3) := by decide +kernel
theorem dX3_greatestCommon_29 : decode cX3_greatestCommon 29 = .ok (.goto (-26), 3) := by decide +kernel
theorem dX3_greatestCommon_32 : decode cX3_greatestCommon 32 = .ok (.lload_n 0, 1) := by decide +kernel
theorem dX3_greatestCommon_33 : decode cX3_greatestCommon 33 = .ok (.lreturn, 1) := by decide +kernel
theorem dX4_init_0 : decode cX4_init 0 = .ok (.aload_n 0, 1) := by decide +kernel
theorem dX4_init_1 : decode cX4_init 1 = .ok (.invokespecial 1, 3) := by decide +kernel
theorem dX4_init_4 : decode cX4_init 4 = .ok (.return_, 1) := by decide +kernel
theorem dX4_madeGood_0 : decode cX4_madeGood 0 = .ok (.aload_n 0, 1) := by decide +kernel
theorem dX4_madeGood_1 : decode cX4_madeGood 1 = .ok (.iload_n 1, 1) := by decide +kernel
theorem dX4_madeGood_2 : decode cX4_madeGood 2 = .ok (.invokespecial 7, 3) := by decide +kernel
theorem dX4_madeGood_5 : decode cX4_madeGood 5 = .ok (.iconst 2, 1) := by decide +kernel
theorem dX4_madeGood_6 : decode cX4_madeGood 6 = .ok (.idiv, 1) := by decide +kernel
theorem dX4_madeGood_7 : decode cX4_madeGood 7 = .ok (.ireturn, 1) := by decide +kernel
theorem dX4_bears_0 : decode cX4_bears 0 = .ok (.aload_n 0, 1) := by decide +kernel
theorem dX4_bears_1 : decode cX4_bears 1 = .ok (.iload_n 1, 1) := by decide +kernel
theorem dX4_bears_2 : decode cX4_bears 2 = .ok (.invokespecial 11, 3) := by decide +kernel
theorem dX4_bears_5 : decode cX4_bears 5 = .ok (.iconst 3, 1) := by decide +kernel
theorem dX4_bears_6 : decode cX4_bears 6 = .ok (.iadd, 1) := by decide +kernel
theorem dX4_bears_7 : decode cX4_bears 7 = .ok (.ireturn, 1) := by decide +kernel
theorem dX5_init_0 : decode cX5_init 0 = .ok (.aload_n 0, 1) := by decide +kernel
theorem dX5_init_1 : decode cX5_init 1 = .ok (.invokespecial 1, 3) := by decide +kernel
theorem dX5_init_4 : decode cX5_init 4 = .ok (.return_, 1) := by decide +kernel
theorem dX5_bears_0 : decode cX5_bears 0 = .ok (.aload_n 0, 1) := by decide +kernel
theorem dX5_bears_1 : decode cX5_bears 1 = .ok (.iload_n 1, 1) := by decide +kernel
theorem dX5_bears_2 : decode cX5_bears 2 = .ok (.invokespecial 7, 3) := by decide +kernel
theorem dX5_bears_5 : decode cX5_bears 5 = .ok (.iconst 2, 1) := by decide +kernel
theorem dX5_bears_6 : decode cX5_bears 6 = .ok (.idiv, 1) := by decide +kernel
theorem dX5_bears_7 : decode cX5_bears 7 = .ok (.ireturn, 1) := by decide +kernel
theorem dX6_init_0 : decode cX6_init 0 = .ok (.aload_n 0, 1) := by decide +kernel
theorem dX6_init_1 : decode cX6_init 1 = .ok (.invokespecial 3, 3) := by decide +kernel
theorem dX6_init_4 : decode cX6_init 4 = .ok (.aload_n 0, 1) := by decide +kernel
theorem dX6_init_5 : decode cX6_init 5 = .ok (.iconst 3, 1) := by decide +kernel
theorem dX6_init_6 : decode cX6_init 6 = .ok (.newarray .int, 2) := by decide +kernel
theorem dX6_init_8 : decode cX6_init 8 = .ok (.putfield 9, 3) := by decide +kernel
theorem dX6_init_11 : decode cX6_init 11 = .ok (.aload_n 0, 1) := by decide +kernel
theorem dX6_init_12 : decode cX6_init 12 = .ok (.bipush 27, 2) := by decide +kernel
theorem dX6_init_14 : decode cX6_init 14 = .ok (.newarray .int, 2) := by decide +kernel
theorem dX6_init_16 : decode cX6_init 16 = .ok (.putfield 15, 3) := by decide +kernel
theorem dX6_init_19 : decode cX6_init 19 = .ok (.aload_n 0, 1) := by decide +kernel
theorem dX6_init_20 : decode cX6_init 20 = .ok (.bipush 27, 2) := by decide +kernel
theorem dX6_init_22 : decode cX6_init 22 = .ok (.newarray .int, 2) := by decide +kernel
theorem dX6_init_24 : decode cX6_init 24 = .ok (.putfield 18, 3) := by decide +kernel
theorem dX6_init_27 : decode cX6_init 27 = .ok (.aload_n 0, 1) := by decide +kernel
theorem dX6_init_28 : decode cX6_init 28 = .ok (.bipush 27, 2) := by decide +kernel
theorem dX6_init_30 : decode cX6_init 30 = .ok (.newarray .int, 2) := by decide +kernel
theorem dX6_init_32 : decode cX6_init 32 = .ok (.putfield 21, 3) := by decide +kernel
theorem dX6_init_35 : decode cX6_init 35 = .ok (.return_, 1) := by decide +kernel
theorem dX6_find_0 : decode cX6_find 0 = .ok (.aload_n 0, 1) := by decide +kernel
theorem dX6_find_1 : decode cX6_find 1 = .ok (.aload_n 1, 1) := by decide +kernel
theorem dX6_find_2 : decode cX6_find 2 = .ok (.iload_n 2, 1) := by decide +kernel
theorem dX6_find_3 : decode cX6_find 3 = .ok (.iconst (-1), 1) := by decide +kernel
theorem dX6_find_4 : decode cX6_find 4 = .ok (.iconst (-1), 1) := by decide +kernel
theorem dX6_find_5 : decode cX6_find 5 = .ok (.invokevirtual 24, 3) := by decide +kernel
theorem dX6_find_8 : decode cX6_find 8 = .ok (.aload_n 0, 1) := by decide +kernel
theorem dX6_find_9 : decode cX6_find 9 = .ok (.aload_n 1, 1) := by decide +kernel
theorem dX6_find_10 : decode cX6_find 10 = .ok (.iload_n 2, 1) := by decide +kernel
theorem dX6_find_11 : decode cX6_find 11 = .ok (.iload_n 3, 1) := by decide +kernel
theorem dX6_find_12 : decode cX6_find 12 = .ok (.invokevirtual 28, 3) := by decide +kernel
theorem dX6_find_15 : decode cX6_find 15 = .ok (.ireturn, 1) := by decide +kernel
theorem dX6_findStowed_0 : decode cX6_findStowed 0 = .ok (.aload_n 0, 1) := by decide +kernel
theorem dX6_findStowed_1 : decode cX6_findStowed 1 = .ok (.aload_n 1, 1) := by decide +kernel
theorem dX6_findStowed_2 : decode cX6_findStowed 2 = .ok (.aload_n 1, 1) := by decide +kernel
theorem dX6_findStowed_3 : decode cX6_findStowed 3 = .ok (.getfield 32, 3) := by decide +kernel
theorem dX6_findStowed_6 : decode cX6_findStowed 6 = .ok (.iload_n 3, 1) := by decide +kernel
theorem dX6_findStowed_7 : decode cX6_findStowed 7 = .ok (.iload 4, 2) := by decide +kernel
theorem dX6_findStowed_9 : decode cX6_findStowed 9 = .ok (.invokevirtual 24, 3) := by decide +kernel
theorem dX6_findStowed_12 : decode cX6_findStowed 12 = .ok (.aload_n 0, 1) := by decide +kernel
theorem dX6_findStowed_13 : decode cX6_findStowed 13 = .ok (.aload_n 1, 1) := by decide +kernel
theorem dX6_findStowed_14 : decode cX6_findStowed 14 = .ok (.aload_n 1, 1) := by decide +kernel
theorem dX6_findStowed_15 : decode cX6_findStowed 15 = .ok (.getfield 32, 3) := by decide +kernel
theorem dX6_findStowed_18 : decode cX6_findStowed 18 = .ok (.iload_n 2, 1) := by decide +kernel
theorem dX6_findStowed_19 : decode cX6_findStowed 19 = .ok (.invokevirtual 28, 3) := by decide +kernel
theorem dX6_findStowed_22 : decode cX6_findStowed 22 = .ok (.ireturn, 1) := by decide +kernel
theorem dX6_pileUp_0 : decode cX6_pileUp 0 = .ok (.iconst 0, 1) := by decide +kernel
theorem dX6_pileUp_1 : decode cX6_pileUp 1 = .ok (.istore 5, 2) := by decide +kernel
theorem dX6_pileUp_3 : decode cX6_pileUp 3 = .ok (.iload 5, 2) := by decide +kernel
theorem dX6_pileUp_5 : decode cX6_pileUp 5 = .ok (.iconst 3, 1) := by decide +kernel
theorem dX6_pileUp_6 : decode cX6_pileUp 6 = .ok (.if_icmp .ge 87, 3) := by decide +kernel
theorem dX6_pileUp_9 : decode cX6_pileUp 9 = .ok (.aload_n 0, 1) := by decide +kernel
theorem dX6_pileUp_10 : decode cX6_pileUp 10 = .ok (.getfield 9, 3) := by decide +kernel
theorem dX6_pileUp_13 : decode cX6_pileUp 13 = .ok (.iload 5, 2) := by decide +kernel
theorem dX6_pileUp_15 : decode cX6_pileUp 15 = .ok (.iconst 0, 1) := by decide +kernel
theorem dX6_pileUp_16 : decode cX6_pileUp 16 = .ok (.iastore, 1) := by decide +kernel
theorem dX6_pileUp_17 : decode cX6_pileUp 17 = .ok (.iload 5, 2) := by decide +kernel
theorem dX6_pileUp_19 : decode cX6_pileUp 19 = .ok (.iload 4, 2) := by decide +kernel
theorem dX6_pileUp_21 : decode cX6_pileUp 21 = .ok (.if_icmp .ne 11, 3) := by decide +kernel
theorem dX6_pileUp_24 : decode cX6_pileUp 24 = .ok (.aload_n 0, 1) := by decide +kernel
theorem dX6_pileUp_25 : decode cX6_pileUp 25 = .ok (.aload_n 1, 1) := by decide +kernel
theorem dX6_pileUp_26 : decode cX6_pileUp 26 = .ok (.iload_n 3, 1) := by decide +kernel
theorem dX6_pileUp_27 : decode cX6_pileUp 27 = .ok (.iload 5, 2) := by decide +kernel
theorem dX6_pileUp_29 : decode cX6_pileUp 29 = .ok (.invokevirtual 38, 3) := by decide +kernel
theorem dX6_pileUp_32 : decode cX6_pileUp 32 = .ok (.aload_n 1, 1) := by decide +kernel
theorem dX6_pileUp_33 : decode cX6_pileUp 33 = .ok (.getfield 42, 3) := by decide +kernel
theorem dX6_pileUp_36 : decode cX6_pileUp 36 = .ok (.iconst 1, 1) := by decide +kernel
theorem dX6_pileUp_37 : decode cX6_pileUp 37 = .ok (.isub, 1) := by decide +kernel
theorem dX6_pileUp_38 : decode cX6_pileUp 38 = .ok (.istore 6, 2) := by decide +kernel
theorem dX6_pileUp_40 : decode cX6_pileUp 40 = .ok (.iload 6, 2) := by decide +kernel
theorem dX6_pileUp_42 : decode cX6_pileUp 42 = .ok (.ifCond .lt 45, 3) := by decide +kernel
theorem dX6_pileUp_45 : decode cX6_pileUp 45 = .ok (.iload 6, 2) := by decide +kernel
theorem dX6_pileUp_47 : decode cX6_pileUp 47 = .ok (.iload_n 3, 1) := by decide +kernel
theorem dX6_pileUp_48 : decode cX6_pileUp 48 = .ok (.if_icmp .eq 33, 3) := by decide +kernel
theorem dX6_pileUp_51 : decode cX6_pileUp 51 = .ok (.iload_n 2, 1) := by decide +kernel
theorem dX6_pileUp_52 : decode cX6_pileUp 52 = .ok (.iload 6, 2) := by decide +kernel
theorem dX6_pileUp_54 : decode cX6_pileUp 54 = .ok (.invokestatic 45, 3) := by decide +kernel
theorem dX6_pileUp_57 : decode cX6_pileUp 57 = .ok (.ifCond .eq 24, 3) := by decide +kernel
theorem dX6_pileUp_60 : decode cX6_pileUp 60 = .ok (.aload_n 1, 1) := by decide +kernel
theorem dX6_pileUp_61 : decode cX6_pileUp 61 = .ok (.iload 6, 2) := by decide +kernel
theorem dX6_pileUp_63 : decode cX6_pileUp 63 = .ok (.iconst 2, 1) := by decide +kernel
theorem dX6_pileUp_64 : decode cX6_pileUp 64 = .ok (.invokevirtual 49, 3) := by decide +kernel
theorem dX6_pileUp_67 : decode cX6_pileUp 67 = .ok (.iload 5, 2) := by decide +kernel
theorem dX6_pileUp_69 : decode cX6_pileUp 69 = .ok (.if_icmp .ne 12, 3) := by decide +kernel
theorem dX6_pileUp_72 : decode cX6_pileUp 72 = .ok (.aload_n 0, 1) := by decide +kernel
theorem dX6_pileUp_73 : decode cX6_pileUp 73 = .ok (.aload_n 1, 1) := by decide +kernel
theorem dX6_pileUp_74 : decode cX6_pileUp 74 = .ok (.iload 6, 2) := by decide +kernel
theorem dX6_pileUp_76 : decode cX6_pileUp 76 = .ok (.iload 5, 2) := by decide +kernel
theorem dX6_pileUp_78 : decode cX6_pileUp 78 = .ok (.invokevirtual 38, 3) := by decide +kernel
theorem dX6_pileUp_81 : decode cX6_pileUp 81 = .ok (.iinc 6 (-1), 3) := by decide +kernel
theorem dX6_pileUp_84 : decode cX6_pileUp 84 = .ok (.goto (-44), 3) := by decide +kernel
theorem dX6_pileUp_87 : decode cX6_pileUp 87 = .ok (.iinc 5 1, 3) := by decide +kernel
theorem dX6_pileUp_90 : decode cX6_pileUp 90 = .ok (.goto (-87), 3) := by decide +kernel
theorem dX6_pileUp_93 : decode cX6_pileUp 93 = .ok (.return_, 1) := by decide +kernel
theorem dX6_lay_0 : decode cX6_lay 0 = .ok (.iload_n 3, 1) := by decide +kernel
theorem dX6_lay_1 : decode cX6_lay 1 = .ok (.iconst 0, 1) := by decide +kernel
theorem dX6_lay_2 : decode cX6_lay 2 = .ok (.iconst 2, 1) := by decide +kernel
theorem dX6_lay_3 : decode cX6_lay 3 = .ok (.invokestatic 53, 3) := by decide +kernel
theorem dX6_lay_6 : decode cX6_lay 6 = .ok (.ifCond .eq 18, 3) := by decide +kernel
theorem dX6_lay_9 : decode cX6_lay 9 = .ok (.aload_n 0, 1) := by decide +kernel
theorem dX6_lay_10 : decode cX6_lay 10 = .ok (.getfield 9, 3) := by decide +kernel
theorem dX6_lay_13 : decode cX6_lay 13 = .ok (.iload_n 3, 1) := by decide +kernel
theorem dX6_lay_14 : decode cX6_lay 14 = .ok (.iaload, 1) := by decide +kernel
theorem dX6_lay_15 : decode cX6_lay 15 = .ok (.iconst 0, 1) := by decide +kernel
theorem dX6_lay_16 : decode cX6_lay 16 = .ok (.bipush 7, 2) := by decide +kernel
theorem dX6_lay_18 : decode cX6_lay 18 = .ok (.invokestatic 53, 3) := by decide +kernel
theorem dX6_lay_21 : decode cX6_lay 21 = .ok (.ifCond .ne 4, 3) := by decide +kernel
theorem dX6_lay_24 : decode cX6_lay 24 = .ok (.return_, 1) := by decide +kernel
theorem dX6_lay_25 : decode cX6_lay 25 = .ok (.iload_n 3, 1) := by decide +kernel
theorem dX6_lay_26 : decode cX6_lay 26 = .ok (.bipush 9, 2) := by decide +kernel
theorem dX6_lay_28 : decode cX6_lay 28 = .ok (.imul, 1) := by decide +kernel
theorem dX6_lay_29 : decode cX6_lay 29 = .ok (.aload_n 0, 1) := by decide +kernel
theorem dX6_lay_30 : decode cX6_lay 30 = .ok (.getfield 9, 3) := by decide +kernel
theorem dX6_lay_33 : decode cX6_lay 33 = .ok (.iload_n 3, 1) := by decide +kernel
theorem dX6_lay_34 : decode cX6_lay 34 = .ok (.iaload, 1) := by decide +kernel
theorem dX6_lay_35 : decode cX6_lay 35 = .ok (.iadd, 1) := by decide +kernel
theorem dX6_lay_36 : decode cX6_lay 36 = .ok (.istore 4, 2) := by decide +kernel
theorem dX6_lay_38 : decode cX6_lay 38 = .ok (.aload_n 0, 1) := by decide +kernel
theorem dX6_lay_39 : decode cX6_lay 39 = .ok (.getfield 15, 3) := by decide +kernel
theorem dX6_lay_42 : decode cX6_lay 42 = .ok (.iload 4, 2) := by decide +kernel
theorem dX6_lay_44 : decode cX6_lay 44 = .ok (.iconst 1, 1) := by decide +kernel
theorem dX6_lay_45 : decode cX6_lay 45 = .ok (.iadd, 1) := by decide +kernel
theorem dX6_lay_46 : decode cX6_lay 46 = .ok (.aload_n 0, 1) := by decide +kernel
theorem dX6_lay_47 : decode cX6_lay 47 = .ok (.getfield 15, 3) := by decide +kernel
theorem dX6_lay_50 : decode cX6_lay 50 = .ok (.iload 4, 2) := by decide +kernel
theorem dX6_lay_52 : decode cX6_lay 52 = .ok (.iaload, 1) := by decide +kernel
theorem dX6_lay_53 : decode cX6_lay 53 = .ok (.iconst 1, 1) := by decide +kernel
theorem dX6_lay_54 : decode cX6_lay 54 = .ok (.iload_n 2, 1) := by decide +kernel
theorem dX6_lay_55 : decode cX6_lay 55 = .ok (.ishl, 1) := by decide +kernel
theorem dX6_lay_56 : decode cX6_lay 56 = .ok (.ior, 1) := by decide +kernel
theorem dX6_lay_57 : decode cX6_lay 57 = .ok (.iastore, 1) := by decide +kernel
theorem dX6_lay_58 : decode cX6_lay 58 = .ok (.aload_n 0, 1) := by decide +kernel
theorem dX6_lay_59 : decode cX6_lay 59 = .ok (.getfield 18, 3) := by decide +kernel
theorem dX6_lay_62 : decode cX6_lay 62 = .ok (.iload 4, 2) := by decide +kernel
theorem dX6_lay_64 : decode cX6_lay 64 = .ok (.iconst 1, 1) := by decide +kernel
theorem dX6_lay_65 : decode cX6_lay 65 = .ok (.iadd, 1) := by decide +kernel
theorem dX6_lay_66 : decode cX6_lay 66 = .ok (.aload_n 0, 1) := by decide +kernel
theorem dX6_lay_67 : decode cX6_lay 67 = .ok (.getfield 18, 3) := by decide +kernel
theorem dX6_lay_70 : decode cX6_lay 70 = .ok (.iload 4, 2) := by decide +kernel
theorem dX6_lay_72 : decode cX6_lay 72 = .ok (.iaload, 1) := by decide +kernel
theorem dX6_lay_73 : decode cX6_lay 73 = .ok (.aload_n 1, 1) := by decide +kernel
theorem dX6_lay_74 : decode cX6_lay 74 = .ok (.iload_n 2, 1) := by decide +kernel
theorem dX6_lay_75 : decode cX6_lay 75 = .ok (.iconst 3, 1) := by decide +kernel
theorem dX6_lay_76 : decode cX6_lay 76 = .ok (.invokevirtual 49, 3) := by decide +kernel
theorem dX6_lay_79 : decode cX6_lay 79 = .ok (.iadd, 1) := by decide +kernel
theorem dX6_lay_80 : decode cX6_lay 80 = .ok (.iastore, 1) := by decide +kernel
theorem dX6_lay_81 : decode cX6_lay 81 = .ok (.aload_n 0, 1) := by decide +kernel
theorem dX6_lay_82 : decode cX6_lay 82 = .ok (.getfield 21, 3) := by decide +kernel
theorem dX6_lay_85 : decode cX6_lay 85 = .ok (.iload 4, 2) := by decide +kernel
theorem dX6_lay_87 : decode cX6_lay 87 = .ok (.iconst 1, 1) := by decide +kernel
theorem dX6_lay_88 : decode cX6_lay 88 = .ok (.iadd, 1) := by decide +kernel
theorem dX6_lay_89 : decode cX6_lay 89 = .ok (.aload_n 0, 1) := by decide +kernel
theorem dX6_lay_90 : decode cX6_lay 90 = .ok (.getfield 21, 3) := by decide +kernel
theorem dX6_lay_93 : decode cX6_lay 93 = .ok (.iload 4, 2) := by decide +kernel
theorem dX6_lay_95 : decode cX6_lay 95 = .ok (.iaload, 1) := by decide +kernel
theorem dX6_lay_96 : decode cX6_lay 96 = .ok (.aload_n 1, 1) := by decide +kernel
theorem dX6_lay_97 : decode cX6_lay 97 = .ok (.iload_n 2, 1) := by decide +kernel
theorem dX6_lay_98 : decode cX6_lay 98 = .ok (.iconst 4, 1) := by decide +kernel
theorem dX6_lay_99 : decode cX6_lay 99 = .ok (.invokevirtual 49, 3) := by decide +kernel
theorem dX6_lay_102 : decode cX6_lay 102 = .ok (.iadd, 1) := by decide +kernel
theorem dX6_lay_103 : decode cX6_lay 103 = .ok (.iastore, 1) := by decide +kernel
theorem dX6_lay_104 : decode cX6_lay 104 = .ok (.aload_n 0, 1) := by decide +kernel
theorem dX6_lay_105 : decode cX6_lay 105 = .ok (.getfield 9, 3) := by decide +kernel
theorem dX6_lay_108 : decode cX6_lay 108 = .ok (.iload_n 3, 1) := by decide +kernel
theorem dX6_lay_109 : decode cX6_lay 109 = .ok (.dup2, 1) := by decide +kernel
theorem dX6_lay_110 : decode cX6_lay 110 = .ok (.iaload, 1) := by decide +kernel
theorem dX6_lay_111 : decode cX6_lay 111 = .ok (.iconst 1, 1) := by decide +kernel
theorem dX6_lay_112 : decode cX6_lay 112 = .ok (.iadd, 1) := by decide +kernel
theorem dX6_lay_113 : decode cX6_lay 113 = .ok (.iastore, 1) := by decide +kernel
theorem dX6_lay_114 : decode cX6_lay 114 = .ok (.return_, 1) := by decide +kernel
theorem dX6_choose_0 : decode cX6_choose 0 = .ok (.aload_n 0, 1) := by decide +kernel
theorem dX6_choose_1 : decode cX6_choose 1 = .ok (.aload_n 1, 1) := by decide +kernel
theorem dX6_choose_2 : decode cX6_choose 2 = .ok (.iload_n 2, 1) := by decide +kernel
theorem dX6_choose_3 : decode cX6_choose 3 = .ok (.iconst 3, 1) := by decide +kernel
theorem dX6_choose_4 : decode cX6_choose 4 = .ok (.invokevirtual 57, 3) := by decide +kernel
theorem dX6_choose_7 : decode cX6_choose 7 = .ok (.aload_n 1, 1) := by decide +kernel
theorem dX6_choose_8 : decode cX6_choose 8 = .ok (.getfield 60, 3) := by decide +kernel
theorem dX6_choose_11 : decode cX6_choose 11 = .ok (.iload_n 3, 1) := by decide +kernel
theorem dX6_choose_12 : decode cX6_choose 12 = .ok (.isub, 1) := by decide +kernel
theorem dX6_choose_13 : decode cX6_choose 13 = .ok (.isub, 1) := by decide +kernel
theorem dX6_choose_14 : decode cX6_choose 14 = .ok (.putfield 63, 3) := by decide +kernel
theorem dX6_choose_17 : decode cX6_choose 17 = .ok (.aload_n 0, 1) := by decide +kernel
theorem dX6_choose_18 : decode cX6_choose 18 = .ok (.iconst (-1), 1) := by decide +kernel
theorem dX6_choose_19 : decode cX6_choose 19 = .ok (.putfield 66, 3) := by decide +kernel
theorem dX6_choose_22 : decode cX6_choose 22 = .ok (.iconst 0, 1) := by decide +kernel
theorem dX6_choose_23 : decode cX6_choose 23 = .ok (.istore 4, 2) := by decide +kernel
theorem dX6_choose_25 : decode cX6_choose 25 = .ok (.iload 4, 2) := by decide +kernel
theorem dX6_choose_27 : decode cX6_choose 27 = .ok (.aload_n 0, 1) := by decide +kernel
theorem dX6_choose_28 : decode cX6_choose 28 = .ok (.getfield 9, 3) := by decide +kernel
theorem dX6_choose_31 : decode cX6_choose 31 = .ok (.iconst 0, 1) := by decide +kernel
theorem dX6_choose_32 : decode cX6_choose 32 = .ok (.iaload, 1) := by decide +kernel
theorem dX6_choose_33 : decode cX6_choose 33 = .ok (.if_icmp .gt 59, 3) := by decide +kernel
theorem dX6_choose_36 : decode cX6_choose 36 = .ok (.iconst 0, 1) := by decide +kernel
theorem dX6_choose_37 : decode cX6_choose 37 = .ok (.istore 5, 2) := by decide +kernel
theorem dX6_choose_39 : decode cX6_choose 39 = .ok (.iload 5, 2) := by decide +kernel
theorem dX6_choose_41 : decode cX6_choose 41 = .ok (.aload_n 0, 1) := by decide +kernel
theorem dX6_choose_42 : decode cX6_choose 42 = .ok (.getfield 9, 3) := by decide +kernel
theorem dX6_choose_45 : decode cX6_choose 45 = .ok (.iconst 1, 1) := by decide +kernel
theorem dX6_choose_46 : decode cX6_choose 46 = .ok (.iaload, 1) := by decide +kernel
theorem dX6_choose_47 : decode cX6_choose 47 = .ok (.if_icmp .gt 39, 3) := by decide +kernel
theorem dX6_choose_50 : decode cX6_choose 50 = .ok (.iconst 0, 1) := by decide +kernel
theorem dX6_choose_51 : decode cX6_choose 51 = .ok (.istore 6, 2) := by decide +kernel
theorem dX6_choose_53 : decode cX6_choose 53 = .ok (.iload 6, 2) := by decide +kernel
theorem dX6_choose_55 : decode cX6_choose 55 = .ok (.aload_n 0, 1) := by decide +kernel
theorem dX6_choose_56 : decode cX6_choose 56 = .ok (.getfield 9, 3) := by decide +kernel
theorem dX6_choose_59 : decode cX6_choose 59 = .ok (.iconst 2, 1) := by decide +kernel
theorem dX6_choose_60 : decode cX6_choose 60 = .ok (.iaload, 1) := by decide +kernel
theorem dX6_choose_61 : decode cX6_choose 61 = .ok (.if_icmp .gt 19, 3) := by decide +kernel
theorem dX6_choose_64 : decode cX6_choose 64 = .ok (.aload_n 0, 1) := by decide +kernel
theorem dX6_choose_65 : decode cX6_choose 65 = .ok (.iload 4, 2) := by decide +kernel
theorem dX6_choose_67 : decode cX6_choose 67 = .ok (.iload 5, 2) := by decide +kernel
theorem dX6_choose_69 : decode cX6_choose 69 = .ok (.iload 6, 2) := by decide +kernel
theorem dX6_choose_71 : decode cX6_choose 71 = .ok (.invokevirtual 69, 3) := by decide +kernel
theorem dX6_choose_74 : decode cX6_choose 74 = .ok (.iinc 6 1, 3) := by decide +kernel
theorem dX6_choose_77 : decode cX6_choose 77 = .ok (.goto (-24), 3) := by decide +kernel
theorem dX6_choose_80 : decode cX6_choose 80 = .ok (.iinc 5 1, 3) := by decide +kernel
theorem dX6_choose_83 : decode cX6_choose 83 = .ok (.goto (-44), 3) := by decide +kernel
theorem dX6_choose_86 : decode cX6_choose 86 = .ok (.iinc 4 1, 3) := by decide +kernel
theorem dX6_choose_89 : decode cX6_choose 89 = .ok (.goto (-64), 3) := by decide +kernel
theorem dX6_choose_92 : decode cX6_choose 92 = .ok (.aload_n 0, 1) := by decide +kernel
theorem dX6_choose_93 : decode cX6_choose 93 = .ok (.getfield 66, 3) := by decide +kernel
theorem dX6_choose_96 : decode cX6_choose 96 = .ok (.ireturn, 1) := by decide +kernel
theorem dX6_consider_0 : decode cX6_consider 0 = .ok (.iload_n 1, 1) := by decide +kernel
theorem dX6_consider_1 : decode cX6_consider 1 = .ok (.istore 4, 2) := by decide +kernel
theorem dX6_consider_3 : decode cX6_consider 3 = .ok (.bipush 9, 2) := by decide +kernel
theorem dX6_consider_5 : decode cX6_consider 5 = .ok (.iload_n 2, 1) := by decide +kernel
theorem dX6_consider_6 : decode cX6_consider 6 = .ok (.iadd, 1) := by decide +kernel
theorem dX6_consider_7 : decode cX6_consider 7 = .ok (.istore 5, 2) := by decide +kernel
theorem dX6_consider_9 : decode cX6_consider 9 = .ok (.bipush 18, 2) := by decide +kernel
theorem dX6_consider_11 : decode cX6_consider 11 = .ok (.iload_n 3, 1) := by decide +kernel
theorem dX6_consider_12 : decode cX6_consider 12 = .ok (.iadd, 1) := by decide +kernel
theorem dX6_consider_13 : decode cX6_consider 13 = .ok (.istore 6, 2) := by decide +kernel
theorem dX6_consider_15 : decode cX6_consider 15 = .ok (.iload 4, 2) := by decide +kernel
theorem dX6_consider_17 : decode cX6_consider 17 = .ok (.iconst 0, 1) := by decide +kernel
theorem dX6_consider_18 : decode cX6_consider 18 = .ok (.bipush 8, 2) := by decide +kernel
theorem dX6_consider_20 : decode cX6_consider 20 = .ok (.invokestatic 53, 3) := by decide +kernel
theorem dX6_consider_23 : decode cX6_consider 23 = .ok (.ifCond .eq 27, 3) := by decide +kernel
theorem dX6_consider_26 : decode cX6_consider 26 = .ok (.iload 5, 2) := by decide +kernel
theorem dX6_consider_28 : decode cX6_consider 28 = .ok (.bipush 9, 2) := by decide +kernel
theorem dX6_consider_30 : decode cX6_consider 30 = .ok (.bipush 17, 2) := by decide +kernel
theorem dX6_consider_32 : decode cX6_consider 32 = .ok (.invokestatic 53, 3) := by decide +kernel
theorem dX6_consider_35 : decode cX6_consider 35 = .ok (.ifCond .eq 15, 3) := by decide +kernel
theorem dX6_consider_38 : decode cX6_consider 38 = .ok (.iload 6, 2) := by decide +kernel
theorem dX6_consider_40 : decode cX6_consider 40 = .ok (.bipush 18, 2) := by decide +kernel
theorem dX6_consider_42 : decode cX6_consider 42 = .ok (.bipush 26, 2) := by decide +kernel
theorem dX6_consider_44 : decode cX6_consider 44 = .ok (.invokestatic 53, 3) := by decide +kernel
theorem dX6_consider_47 : decode cX6_consider 47 = .ok (.ifCond .ne 4, 3) := by decide +kernel
theorem dX6_consider_50 : decode cX6_consider 50 = .ok (.return_, 1) := by decide +kernel
theorem dX6_consider_51 : decode cX6_consider 51 = .ok (.aload_n 0, 1) := by decide +kernel
theorem dX6_consider_52 : decode cX6_consider 52 = .ok (.getfield 18, 3) := by decide +kernel
theorem dX6_consider_55 : decode cX6_consider 55 = .ok (.iload 4, 2) := by decide +kernel
theorem dX6_consider_57 : decode cX6_consider 57 = .ok (.iaload, 1) := by decide +kernel
theorem dX6_consider_58 : decode cX6_consider 58 = .ok (.aload_n 0, 1) := by decide +kernel
theorem dX6_consider_59 : decode cX6_consider 59 = .ok (.getfield 18, 3) := by decide +kernel
theorem dX6_consider_62 : decode cX6_consider 62 = .ok (.iload 5, 2) := by decide +kernel
theorem dX6_consider_64 : decode cX6_consider 64 = .ok (.iaload, 1) := by decide +kernel
theorem dX6_consider_65 : decode cX6_consider 65 = .ok (.iadd, 1) := by decide +kernel
theorem dX6_consider_66 : decode cX6_consider 66 = .ok (.aload_n 0, 1) := by decide +kernel
theorem dX6_consider_67 : decode cX6_consider 67 = .ok (.getfield 18, 3) := by decide +kernel
theorem dX6_consider_70 : decode cX6_consider 70 = .ok (.iload 6, 2) := by decide +kernel
theorem dX6_consider_72 : decode cX6_consider 72 = .ok (.iaload, 1) := by decide +kernel
theorem dX6_consider_73 : decode cX6_consider 73 = .ok (.iadd, 1) := by decide +kernel
theorem dX6_consider_74 : decode cX6_consider 74 = .ok (.aload_n 0, 1) := by decide +kernel
theorem dX6_consider_75 : decode cX6_consider 75 = .ok (.getfield 63, 3) := by decide +kernel
theorem dX6_consider_78 : decode cX6_consider 78 = .ok (.if_icmp .ge 4, 3) := by decide +kernel
theorem dX6_consider_81 : decode cX6_consider 81 = .ok (.return_, 1) := by decide +kernel
theorem dX6_consider_82 : decode cX6_consider 82 = .ok (.aload_n 0, 1) := by decide +kernel
theorem dX6_consider_83 : decode cX6_consider 83 = .ok (.aload_n 0, 1) := by decide +kernel
theorem dX6_consider_84 : decode cX6_consider 84 = .ok (.getfield 15, 3) := by decide +kernel
theorem dX6_consider_87 : decode cX6_consider 87 = .ok (.iload 4, 2) := by decide +kernel
theorem dX6_consider_89 : decode cX6_consider 89 = .ok (.iaload, 1) := by decide +kernel
theorem dX6_consider_90 : decode cX6_consider 90 = .ok (.aload_n 0, 1) := by decide +kernel
theorem dX6_consider_91 : decode cX6_consider 91 = .ok (.getfield 15, 3) := by decide +kernel
theorem dX6_consider_94 : decode cX6_consider 94 = .ok (.iload 5, 2) := by decide +kernel
theorem dX6_consider_96 : decode cX6_consider 96 = .ok (.iaload, 1) := by decide +kernel
theorem dX6_consider_97 : decode cX6_consider 97 = .ok (.ior, 1) := by decide +kernel
theorem dX6_consider_98 : decode cX6_consider 98 = .ok (.aload_n 0, 1) := by decide +kernel
theorem dX6_consider_99 : decode cX6_consider 99 = .ok (.getfield 15, 3) := by decide +kernel
theorem dX6_consider_102 : decode cX6_consider 102 = .ok (.iload 6, 2) := by decide +kernel
theorem dX6_consider_104 : decode cX6_consider 104 = .ok (.iaload, 1) := by decide +kernel
theorem dX6_consider_105 : decode cX6_consider 105 = .ok (.ior, 1) := by decide +kernel
theorem dX6_consider_106 : decode cX6_consider 106 = .ok (.iload_n 1, 1) := by decide +kernel
theorem dX6_consider_107 : decode cX6_consider 107 = .ok (.iload_n 2, 1) := by decide +kernel
theorem dX6_consider_108 : decode cX6_consider 108 = .ok (.iadd, 1) := by decide +kernel
theorem dX6_consider_109 : decode cX6_consider 109 = .ok (.iload_n 3, 1) := by decide +kernel
theorem dX6_consider_110 : decode cX6_consider 110 = .ok (.iadd, 1) := by decide +kernel
theorem dX6_consider_111 : decode cX6_consider 111 = .ok (.aload_n 0, 1) := by decide +kernel
theorem dX6_consider_112 : decode cX6_consider 112 = .ok (.getfield 21, 3) := by decide +kernel
theorem dX6_consider_115 : decode cX6_consider 115 = .ok (.iload 4, 2) := by decide +kernel
theorem dX6_consider_117 : decode cX6_consider 117 = .ok (.iaload, 1) := by decide +kernel
theorem dX6_consider_118 : decode cX6_consider 118 = .ok (.aload_n 0, 1) := by decide +kernel
theorem dX6_consider_119 : decode cX6_consider 119 = .ok (.getfield 21, 3) := by decide +kernel
theorem dX6_consider_122 : decode cX6_consider 122 = .ok (.iload 5, 2) := by decide +kernel
theorem dX6_consider_124 : decode cX6_consider 124 = .ok (.iaload, 1) := by decide +kernel
theorem dX6_consider_125 : decode cX6_consider 125 = .ok (.iadd, 1) := by decide +kernel
theorem dX6_consider_126 : decode cX6_consider 126 = .ok (.aload_n 0, 1) := by decide +kernel
theorem dX6_consider_127 : decode cX6_consider 127 = .ok (.getfield 21, 3) := by decide +kernel
theorem dX6_consider_130 : decode cX6_consider 130 = .ok (.iload 6, 2) := by decide +kernel
theorem dX6_consider_132 : decode cX6_consider 132 = .ok (.iaload, 1) := by decide +kernel
theorem dX6_consider_133 : decode cX6_consider 133 = .ok (.iadd, 1) := by decide +kernel
theorem dX6_consider_134 : decode cX6_consider 134 = .ok (.invokevirtual 73, 3) := by decide +kernel
theorem dX6_consider_137 : decode cX6_consider 137 = .ok (.return_, 1) := by decide +kernel
theorem dX6_keepIfBetter_0 : decode cX6_keepIfBetter 0 = .ok (.aload_n 0, 1) := by decide +kernel
theorem dX6_keepIfBetter_1 : decode cX6_keepIfBetter 1 = .ok (.getfield 66, 3) := by decide +kernel
theorem dX6_keepIfBetter_4 : decode cX6_keepIfBetter 4 = .ok (.iconst (-1), 1) := by decide +kernel
theorem dX6_keepIfBetter_5 : decode cX6_keepIfBetter 5 = .ok (.if_icmp .eq 14, 3) := by decide +kernel
theorem dX6_keepIfBetter_8 : decode cX6_keepIfBetter 8 = .ok (.aload_n 0, 1) := by decide +kernel
theorem dX6_keepIfBetter_9 : decode cX6_keepIfBetter 9 = .ok (.iload_n 1, 1) := by decide +kernel
theorem dX6_keepIfBetter_10 : decode cX6_keepIfBetter 10 = .ok (.iload_n 2, 1) := by decide +kernel
theorem dX6_keepIfBetter_11 : decode cX6_keepIfBetter 11 = .ok (.iload_n 3, 1) := by decide +kernel
theorem dX6_keepIfBetter_12 : decode cX6_keepIfBetter 12 = .ok (.invokevirtual 76, 3) := by decide +kernel
theorem dX6_keepIfBetter_15 : decode cX6_keepIfBetter 15 = .ok (.ifCond .ne 4, 3) := by decide +kernel
theorem dX6_keepIfBetter_18 : decode cX6_keepIfBetter 18 = .ok (.return_, 1) := by decide +kernel
theorem dX6_keepIfBetter_19 : decode cX6_keepIfBetter 19 = .ok (.aload_n 0, 1) := by decide +kernel
theorem dX6_keepIfBetter_20 : decode cX6_keepIfBetter 20 = .ok (.iload_n 1, 1) := by decide +kernel
theorem dX6_keepIfBetter_21 : decode cX6_keepIfBetter 21 = .ok (.putfield 66, 3) := by decide +kernel
theorem dX6_keepIfBetter_24 : decode cX6_keepIfBetter 24 = .ok (.aload_n 0, 1) := by decide +kernel
theorem dX6_keepIfBetter_25 : decode cX6_keepIfBetter 25 = .ok (.iload_n 2, 1) := by decide +kernel
theorem dX6_keepIfBetter_26 : decode cX6_keepIfBetter 26 = .ok (.putfield 79, 3) := by decide +kernel
theorem dX6_keepIfBetter_29 : decode cX6_keepIfBetter 29 = .ok (.aload_n 0, 1) := by decide +kernel
theorem dX6_keepIfBetter_30 : decode cX6_keepIfBetter 30 = .ok (.iload_n 3, 1) := by decide +kernel
theorem dX6_keepIfBetter_31 : decode cX6_keepIfBetter 31 = .ok (.putfield 82, 3) := by decide +kernel
theorem dX6_keepIfBetter_34 : decode cX6_keepIfBetter 34 = .ok (.return_, 1) := by decide +kernel
theorem dX6_isBetter_0 : decode cX6_isBetter 0 = .ok (.iload_n 3, 1) := by decide +kernel
theorem dX6_isBetter_1 : decode cX6_isBetter 1 = .ok (.aload_n 0, 1) := by decide +kernel
theorem dX6_isBetter_2 : decode cX6_isBetter 2 = .ok (.getfield 82, 3) := by decide +kernel
theorem dX6_isBetter_5 : decode cX6_isBetter 5 = .ok (.if_icmp .eq 17, 3) := by decide +kernel
theorem dX6_isBetter_8 : decode cX6_isBetter 8 = .ok (.iload_n 3, 1) := by decide +kernel
theorem dX6_isBetter_9 : decode cX6_isBetter 9 = .ok (.aload_n 0, 1) := by decide +kernel
theorem dX6_isBetter_10 : decode cX6_isBetter 10 = .ok (.getfield 82, 3) := by decide +kernel
theorem dX6_isBetter_13 : decode cX6_isBetter 13 = .ok (.if_icmp .ge 7, 3) := by decide +kernel
theorem dX6_isBetter_16 : decode cX6_isBetter 16 = .ok (.iconst 1, 1) := by decide +kernel
theorem dX6_isBetter_17 : decode cX6_isBetter 17 = .ok (.goto 4, 3) := by decide +kernel
theorem dX6_isBetter_20 : decode cX6_isBetter 20 = .ok (.iconst 0, 1) := by decide +kernel
theorem dX6_isBetter_21 : decode cX6_isBetter 21 = .ok (.ireturn, 1) := by decide +kernel
theorem dX6_isBetter_22 : decode cX6_isBetter 22 = .ok (.iload_n 2, 1) := by decide +kernel
theorem dX6_isBetter_23 : decode cX6_isBetter 23 = .ok (.aload_n 0, 1) := by decide +kernel
theorem dX6_isBetter_24 : decode cX6_isBetter 24 = .ok (.getfield 79, 3) := by decide +kernel
theorem dX6_isBetter_27 : decode cX6_isBetter 27 = .ok (.if_icmp .eq 19, 3) := by decide +kernel
theorem dX6_isBetter_30 : decode cX6_isBetter 30 = .ok (.iload_n 2, 1) := by decide +kernel
theorem dX6_isBetter_31 : decode cX6_isBetter 31 = .ok (.aload_n 0, 1) := by decide +kernel
theorem dX6_isBetter_32 : decode cX6_isBetter 32 = .ok (.getfield 79, 3) := by decide +kernel
theorem dX6_isBetter_35 : decode cX6_isBetter 35 = .ok (.if_icmp .ge 7, 3) := by decide +kernel
theorem dX6_isBetter_38 : decode cX6_isBetter 38 = .ok (.iconst 1, 1) := by decide +kernel
theorem dX6_isBetter_39 : decode cX6_isBetter 39 = .ok (.goto 20, 3) := by decide +kernel
theorem dX6_isBetter_42 : decode cX6_isBetter 42 = .ok (.iconst 0, 1) := by decide +kernel
theorem dX6_isBetter_43 : decode cX6_isBetter 43 = .ok (.goto 16, 3) := by decide +kernel
theorem dX6_isBetter_46 : decode cX6_isBetter 46 = .ok (.iload_n 1, 1) := by decide +kernel
theorem dX6_isBetter_47 : decode cX6_isBetter 47 = .ok (.aload_n 0, 1) := by decide +kernel
theorem dX6_isBetter_48 : decode cX6_isBetter 48 = .ok (.getfield 66, 3) := by decide +kernel
theorem dX6_isBetter_51 : decode cX6_isBetter 51 = .ok (.if_icmp .ge 7, 3) := by decide +kernel
theorem dX6_isBetter_54 : decode cX6_isBetter 54 = .ok (.iconst 1, 1) := by decide +kernel
theorem dX6_isBetter_55 : decode cX6_isBetter 55 = .ok (.goto 4, 3) := by decide +kernel
theorem dX6_isBetter_58 : decode cX6_isBetter 58 = .ok (.iconst 0, 1) := by decide +kernel
theorem dX6_isBetter_59 : decode cX6_isBetter 59 = .ok (.ireturn, 1) := by decide +kernel
theorem dX7_init_0 : decode cX7_init 0 = .ok (.aload_n 0, 1) := by decide +kernel
theorem dX7_init_1 : decode cX7_init 1 = .ok (.invokespecial 1, 3) := by decide +kernel
theorem dX7_init_4 : decode cX7_init 4 = .ok (.return_, 1) := by decide +kernel
theorem dX7_madeGood_0 : decode cX7_madeGood 0 = .ok (.aload_n 0, 1) := by decide +kernel
theorem dX7_madeGood_1 : decode cX7_madeGood 1 = .ok (.iload_n 1, 1) := by decide +kernel
theorem dX7_madeGood_2 : decode cX7_madeGood 2 = .ok (.invokespecial 7, 3) := by decide +kernel
theorem dX7_madeGood_5 : decode cX7_madeGood 5 = .ok (.iconst 5, 1) := by decide +kernel
theorem dX7_madeGood_6 : decode cX7_madeGood 6 = .ok (.iadd, 1) := by decide +kernel
theorem dX7_madeGood_7 : decode cX7_madeGood 7 = .ok (.ireturn, 1) := by decide +kernel
theorem dX7_bears_0 : decode cX7_bears 0 = .ok (.iconst 0, 1) := by decide +kernel
theorem dX7_bears_1 : decode cX7_bears 1 = .ok (.ireturn, 1) := by decide +kernel
theorem dX8_init_0 : decode cX8_init 0 = .ok (.aload_n 0, 1) := by decide +kernel
theorem dX8_init_1 : decode cX8_init 1 = .ok (.invokespecial 1, 3) := by decide +kernel
theorem dX8_init_4 : decode cX8_init 4 = .ok (.return_, 1) := by decide +kernel
theorem dX8_madeGood_0 : decode cX8_madeGood 0 = .ok (.iload_n 1, 1) := by decide +kernel
theorem dX8_madeGood_1 : decode cX8_madeGood 1 = .ok (.ireturn, 1) := by decide +kernel
theorem dX8_bears_0 : decode cX8_bears 0 = .ok (.iload_n 1, 1) := by decide +kernel
theorem dX8_bears_1 : decode cX8_bears 1 = .ok (.ireturn, 1) := by decide +kernel
theorem dX9_init_0 : decode cX9_init 0 = .ok (.aload_n 0, 1) := by decide +kernel
theorem dX9_init_1 : decode cX9_init 1 = .ok (.invokespecial 1, 3) := by decide +kernel
theorem dX9_init_4 : decode cX9_init 4 = .ok (.return_, 1) := by decide +kernel
theorem dX9_madeGood_0 : decode cX9_madeGood 0 = .ok (.aload_n 0, 1) := by decide +kernel
theorem dX9_madeGood_1 : decode cX9_madeGood 1 = .ok (.iload_n 1, 1) := by decide +kernel
theorem dX9_madeGood_2 : decode cX9_madeGood 2 = .ok (.invokespecial 7, 3) := by decide +kernel
theorem dX9_madeGood_5 : decode cX9_madeGood 5 = .ok (.iconst 3, 1) := by decide +kernel
theorem dX9_madeGood_6 : decode cX9_madeGood 6 = .ok (.imul, 1) := by decide +kernel
theorem dX9_madeGood_7 : decode cX9_madeGood 7 = .ok (.iconst 4, 1) := by decide +kernel
theorem dX9_madeGood_8 : decode cX9_madeGood 8 = .ok (.idiv, 1) := by decide +kernel
theorem dX9_madeGood_9 : decode cX9_madeGood 9 = .ok (.ireturn, 1) := by decide +kernel
theorem dX10_init_0 : decode cX10_init 0 = .ok (.aload_n 0, 1) := by decide +kernel
theorem dX10_init_1 : decode cX10_init 1 = .ok (.invokespecial 3, 3) := by decide +kernel
theorem dX10_init_4 : decode cX10_init 4 = .ok (.aload_n 0, 1) := by decide +kernel
theorem dX10_init_5 : decode cX10_init 5 = .ok (.sipush 150, 3) := by decide +kernel
theorem dX10_init_8 : decode cX10_init 8 = .ok (.newarray .byte, 2) := by decide +kernel
theorem dX10_init_10 : decode cX10_init 10 = .ok (.putfield 9, 3) := by decide +kernel
theorem dX10_init_13 : decode cX10_init 13 = .ok (.aload_n 0, 1) := by decide +kernel
theorem dX10_init_14 : decode cX10_init 14 = .ok (.bipush 6, 2) := by decide +kernel
theorem dX10_init_16 : decode cX10_init 16 = .ok (.newarray .int, 2) := by decide +kernel
theorem dX10_init_18 : decode cX10_init 18 = .ok (.putfield 15, 3) := by decide +kernel
theorem dX10_init_21 : decode cX10_init 21 = .ok (.return_, 1) := by decide +kernel
theorem dX10_append_0 : decode cX10_append 0 = .ok (.aload_n 0, 1) := by decide +kernel
theorem dX10_append_1 : decode cX10_append 1 = .ok (.getfield 19, 3) := by decide +kernel
theorem dX10_append_4 : decode cX10_append 4 = .ok (.iconst 0, 1) := by decide +kernel
theorem dX10_append_5 : decode cX10_append 5 = .ok (.sipush 149, 3) := by decide +kernel
theorem dX10_append_8 : decode cX10_append 8 = .ok (.invokestatic 23, 3) := by decide +kernel
theorem dX10_append_11 : decode cX10_append 11 = .ok (.ifCond .ne 5, 3) := by decide +kernel
theorem dX10_append_14 : decode cX10_append 14 = .ok (.iconst 0, 1) := by decide +kernel
theorem dX10_append_15 : decode cX10_append 15 = .ok (.ireturn, 1) := by decide +kernel
theorem dX10_append_16 : decode cX10_append 16 = .ok (.aload_n 0, 1) := by decide +kernel
theorem dX10_append_17 : decode cX10_append 17 = .ok (.getfield 9, 3) := by decide +kernel
theorem dX10_append_20 : decode cX10_append 20 = .ok (.aload_n 0, 1) := by decide +kernel
theorem dX10_append_21 : decode cX10_append 21 = .ok (.getfield 19, 3) := by decide +kernel
theorem dX10_append_24 : decode cX10_append 24 = .ok (.iload_n 1, 1) := by decide +kernel
theorem dX10_append_25 : decode cX10_append 25 = .ok (.i2b, 1) := by decide +kernel
theorem dX10_append_26 : decode cX10_append 26 = .ok (.bastore, 1) := by decide +kernel
theorem dX10_append_27 : decode cX10_append 27 = .ok (.aload_n 0, 1) := by decide +kernel
theorem dX10_append_28 : decode cX10_append 28 = .ok (.dup, 1) := by decide +kernel
theorem dX10_append_29 : decode cX10_append 29 = .ok (.getfield 19, 3) := by decide +kernel
theorem dX10_append_32 : decode cX10_append 32 = .ok (.iconst 1, 1) := by decide +kernel
theorem dX10_append_33 : decode cX10_append 33 = .ok (.iadd, 1) := by decide +kernel
theorem dX10_append_34 : decode cX10_append 34 = .ok (.putfield 19, 3) := by decide +kernel
theorem dX10_append_37 : decode cX10_append 37 = .ok (.iconst 1, 1) := by decide +kernel
theorem dX10_append_38 : decode cX10_append 38 = .ok (.ireturn, 1) := by decide +kernel
theorem dX10_readInto_0 : decode cX10_readInto 0 = .ok (.aload_n 0, 1) := by decide +kernel
theorem dX10_readInto_1 : decode cX10_readInto 1 = .ok (.iconst 0, 1) := by decide +kernel
theorem dX10_readInto_2 : decode cX10_readInto 2 = .ok (.putfield 27, 3) := by decide +kernel
theorem dX10_readInto_5 : decode cX10_readInto 5 = .ok (.aload_n 0, 1) := by decide +kernel
theorem dX10_readInto_6 : decode cX10_readInto 6 = .ok (.iconst 0, 1) := by decide +kernel
theorem dX10_readInto_7 : decode cX10_readInto 7 = .ok (.putfield 30, 3) := by decide +kernel
theorem dX10_readInto_10 : decode cX10_readInto 10 = .ok (.aload_n 0, 1) := by decide +kernel
theorem dX10_readInto_11 : decode cX10_readInto 11 = .ok (.iconst (-1), 1) := by decide +kernel
theorem dX10_readInto_12 : decode cX10_readInto 12 = .ok (.putfield 33, 3) := by decide +kernel
theorem dX10_readInto_15 : decode cX10_readInto 15 = .ok (.aload_n 0, 1) := by decide +kernel
theorem dX10_readInto_16 : decode cX10_readInto 16 = .ok (.invokevirtual 36, 3) := by decide +kernel
theorem dX10_readInto_19 : decode cX10_readInto 19 = .ok (.iconst 0, 1) := by decide +kernel
theorem dX10_readInto_20 : decode cX10_readInto 20 = .ok (.istore_n 2, 1) := by decide +kernel
theorem dX10_readInto_21 : decode cX10_readInto 21 = .ok (.iload_n 2, 1) := by decide +kernel
theorem dX10_readInto_22 : decode cX10_readInto 22 = .ok (.sipush 150, 3) := by decide +kernel
theorem dX10_readInto_25 : decode cX10_readInto 25 = .ok (.if_icmp .gt 40, 3) := by decide +kernel
theorem dX10_readInto_28 : decode cX10_readInto 28 = .ok (.aload_n 0, 1) := by decide +kernel
theorem dX10_readInto_29 : decode cX10_readInto 29 = .ok (.getfield 33, 3) := by decide +kernel
theorem dX10_readInto_32 : decode cX10_readInto 32 = .ok (.iconst (-1), 1) := by decide +kernel
theorem dX10_readInto_33 : decode cX10_readInto 33 = .ok (.if_icmp .ne 32, 3) := by decide +kernel
theorem dX10_readInto_36 : decode cX10_readInto 36 = .ok (.aload_n 0, 1) := by decide +kernel
theorem dX10_readInto_37 : decode cX10_readInto 37 = .ok (.getfield 30, 3) := by decide +kernel
theorem dX10_readInto_40 : decode cX10_readInto 40 = .ok (.ifCond .eq 10, 3) := by decide +kernel
theorem dX10_readInto_43 : decode cX10_readInto 43 = .ok (.aload_n 0, 1) := by decide +kernel
theorem dX10_readInto_44 : decode cX10_readInto 44 = .ok (.getfield 39, 3) := by decide +kernel
theorem dX10_readInto_47 : decode cX10_readInto 47 = .ok (.ifCond .eq 18, 3) := by decide +kernel
theorem dX10_readInto_50 : decode cX10_readInto 50 = .ok (.aload_n 0, 1) := by decide +kernel
theorem dX10_readInto_51 : decode cX10_readInto 51 = .ok (.aload_n 1, 1) := by decide +kernel
theorem dX10_readInto_52 : decode cX10_readInto 52 = .ok (.invokevirtual 42, 3) := by decide +kernel
theorem dX10_readInto_55 : decode cX10_readInto 55 = .ok (.aload_n 0, 1) := by decide +kernel
theorem dX10_readInto_56 : decode cX10_readInto 56 = .ok (.invokevirtual 46, 3) := by decide +kernel
theorem dX10_readInto_59 : decode cX10_readInto 59 = .ok (.iinc 2 1, 3) := by decide +kernel
theorem dX10_readInto_62 : decode cX10_readInto 62 = .ok (.goto (-41), 3) := by decide +kernel
theorem dX10_readInto_65 : decode cX10_readInto 65 = .ok (.aload_n 0, 1) := by decide +kernel
theorem dX10_readInto_66 : decode cX10_readInto 66 = .ok (.getfield 33, 3) := by decide +kernel
theorem dX10_readInto_69 : decode cX10_readInto 69 = .ok (.iconst (-1), 1) := by decide +kernel
theorem dX10_readInto_70 : decode cX10_readInto 70 = .ok (.if_icmp .ne 10, 3) := by decide +kernel
theorem dX10_readInto_73 : decode cX10_readInto 73 = .ok (.aload_n 0, 1) := by decide +kernel
theorem dX10_readInto_74 : decode cX10_readInto 74 = .ok (.getfield 30, 3) := by decide +kernel
theorem dX10_readInto_77 : decode cX10_readInto 77 = .ok (.goto 10, 3) := by decide +kernel
theorem dX10_readInto_80 : decode cX10_readInto 80 = .ok (.bipush (-10), 2) := by decide +kernel
theorem dX10_readInto_82 : decode cX10_readInto 82 = .ok (.aload_n 0, 1) := by decide +kernel
theorem dX10_readInto_83 : decode cX10_readInto 83 = .ok (.getfield 33, 3) := by decide +kernel
theorem dX10_readInto_86 : decode cX10_readInto 86 = .ok (.isub, 1) := by decide +kernel
theorem dX10_readInto_87 : decode cX10_readInto 87 = .ok (.ireturn, 1) := by decide +kernel
theorem dX10_readItem_0 : decode cX10_readItem 0 = .ok (.aload_n 0, 1) := by decide +kernel
theorem dX10_readItem_1 : decode cX10_readItem 1 = .ok (.getfield 39, 3) := by decide +kernel
theorem dX10_readItem_4 : decode cX10_readItem 4 = .ok (.iconst 1, 1) := by decide +kernel
theorem dX10_readItem_5 : decode cX10_readItem 5 = .ok (.if_icmp .ne 42, 3) := by decide +kernel
theorem dX10_readItem_8 : decode cX10_readItem 8 = .ok (.aload_n 0, 1) := by decide +kernel
theorem dX10_readItem_9 : decode cX10_readItem 9 = .ok (.getfield 30, 3) := by decide +kernel
theorem dX10_readItem_12 : decode cX10_readItem 12 = .ok (.ifCond .ne 35, 3) := by decide +kernel
theorem dX10_readItem_15 : decode cX10_readItem 15 = .ok (.aload_n 0, 1) := by decide +kernel
theorem dX10_readItem_16 : decode cX10_readItem 16 = .ok (.getstatic 49, 3) := by decide +kernel
theorem dX10_readItem_19 : decode cX10_readItem 19 = .ok (.getstatic 52, 3) := by decide +kernel
theorem dX10_readItem_22 : decode cX10_readItem 22 = .ok (.invokevirtual 55, 3) := by decide +kernel
theorem dX10_readItem_25 : decode cX10_readItem 25 = .ok (.ifCond .eq 102, 3) := by decide +kernel
theorem dX10_readItem_28 : decode cX10_readItem 28 = .ok (.aload_n 1, 1) := by decide +kernel
theorem dX10_readItem_29 : decode cX10_readItem 29 = .ok (.aload_n 0, 1) := by decide +kernel
theorem dX10_readItem_30 : decode cX10_readItem 30 = .ok (.getfield 15, 3) := by decide +kernel
theorem dX10_readItem_33 : decode cX10_readItem 33 = .ok (.iconst 0, 1) := by decide +kernel
theorem dX10_readItem_34 : decode cX10_readItem 34 = .ok (.iaload, 1) := by decide +kernel
theorem dX10_readItem_35 : decode cX10_readItem 35 = .ok (.aload_n 0, 1) := by decide +kernel
theorem dX10_readItem_36 : decode cX10_readItem 36 = .ok (.getfield 15, 3) := by decide +kernel
theorem dX10_readItem_39 : decode cX10_readItem 39 = .ok (.iconst 1, 1) := by decide +kernel
theorem dX10_readItem_40 : decode cX10_readItem 40 = .ok (.iaload, 1) := by decide +kernel
theorem dX10_readItem_41 : decode cX10_readItem 41 = .ok (.invokevirtual 59, 3) := by decide +kernel
theorem dX10_readItem_44 : decode cX10_readItem 44 = .ok (.goto 83, 3) := by decide +kernel
theorem dX10_readItem_47 : decode cX10_readItem 47 = .ok (.aload_n 0, 1) := by decide +kernel
theorem dX10_readItem_48 : decode cX10_readItem 48 = .ok (.getfield 39, 3) := by decide +kernel
theorem dX10_readItem_51 : decode cX10_readItem 51 = .ok (.iconst 2, 1) := by decide +kernel
theorem dX10_readItem_52 : decode cX10_readItem 52 = .ok (.if_icmp .ne 44, 3) := by decide +kernel
theorem dX10_readItem_55 : decode cX10_readItem 55 = .ok (.aload_n 0, 1) := by decide +kernel
theorem dX10_readItem_56 : decode cX10_readItem 56 = .ok (.getfield 30, 3) := by decide +kernel
theorem dX10_readItem_59 : decode cX10_readItem 59 = .ok (.ifCond .le 37, 3) := by decide +kernel
theorem dX10_readItem_62 : decode cX10_readItem 62 = .ok (.aload_n 1, 1) := by decide +kernel
theorem dX10_readItem_63 : decode cX10_readItem 63 = .ok (.getfield 65, 3) := by decide +kernel
theorem dX10_readItem_66 : decode cX10_readItem 66 = .ok (.bipush 8, 2) := by decide +kernel
theorem dX10_readItem_68 : decode cX10_readItem 68 = .ok (.if_icmp .ge 28, 3) := by decide +kernel
theorem dX10_readItem_71 : decode cX10_readItem 71 = .ok (.aload_n 0, 1) := by decide +kernel
theorem dX10_readItem_72 : decode cX10_readItem 72 = .ok (.getstatic 68, 3) := by decide +kernel
theorem dX10_readItem_75 : decode cX10_readItem 75 = .ok (.getstatic 71, 3) := by decide +kernel
theorem dX10_readItem_78 : decode cX10_readItem 78 = .ok (.invokevirtual 55, 3) := by decide +kernel
theorem dX10_readItem_81 : decode cX10_readItem 81 = .ok (.ifCond .eq 46, 3) := by decide +kernel
theorem dX10_readItem_84 : decode cX10_readItem 84 = .ok (.aload_n 1, 1) := by decide +kernel
theorem dX10_readItem_85 : decode cX10_readItem 85 = .ok (.aload_n 0, 1) := by decide +kernel
theorem dX10_readItem_86 : decode cX10_readItem 86 = .ok (.getfield 15, 3) := by decide +kernel
theorem dX10_readItem_89 : decode cX10_readItem 89 = .ok (.invokevirtual 74, 3) := by decide +kernel
theorem dX10_readItem_92 : decode cX10_readItem 92 = .ok (.pop, 1) := by decide +kernel
theorem dX10_readItem_93 : decode cX10_readItem 93 = .ok (.goto 34, 3) := by decide +kernel
theorem dX10_readItem_96 : decode cX10_readItem 96 = .ok (.aload_n 0, 1) := by decide +kernel
theorem dX10_readItem_97 : decode cX10_readItem 97 = .ok (.getfield 39, 3) := by decide +kernel
theorem dX10_readItem_100 : decode cX10_readItem 100 = .ok (.iconst 3, 1) := by decide +kernel
theorem dX10_readItem_101 : decode cX10_readItem 101 = .ok (.if_icmp .ne 18, 3) := by decide +kernel
theorem dX10_readItem_104 : decode cX10_readItem 104 = .ok (.aload_n 0, 1) := by decide +kernel
theorem dX10_readItem_105 : decode cX10_readItem 105 = .ok (.getfield 30, 3) := by decide +kernel
theorem dX10_readItem_108 : decode cX10_readItem 108 = .ok (.ifCond .le 11, 3) := by decide +kernel
theorem dX10_readItem_111 : decode cX10_readItem 111 = .ok (.aload_n 0, 1) := by decide +kernel
theorem dX10_readItem_112 : decode cX10_readItem 112 = .ok (.aload_n 1, 1) := by decide +kernel
theorem dX10_readItem_113 : decode cX10_readItem 113 = .ok (.invokevirtual 78, 3) := by decide +kernel
theorem dX10_readItem_116 : decode cX10_readItem 116 = .ok (.goto 11, 3) := by decide +kernel
theorem dX10_readItem_119 : decode cX10_readItem 119 = .ok (.aload_n 0, 1) := by decide +kernel
theorem dX10_readItem_120 : decode cX10_readItem 120 = .ok (.aload_n 0, 1) := by decide +kernel
theorem dX10_readItem_121 : decode cX10_readItem 121 = .ok (.getfield 81, 3) := by decide +kernel
theorem dX10_readItem_124 : decode cX10_readItem 124 = .ok (.putfield 33, 3) := by decide +kernel
theorem dX10_readItem_127 : decode cX10_readItem 127 = .ok (.return_, 1) := by decide +kernel
theorem dX10_takeStop_0 : decode cX10_takeStop 0 = .ok (.aload_n 0, 1) := by decide +kernel
theorem dX10_takeStop_1 : decode cX10_takeStop 1 = .ok (.getfield 33, 3) := by decide +kernel
theorem dX10_takeStop_4 : decode cX10_takeStop 4 = .ok (.iconst (-1), 1) := by decide +kernel
theorem dX10_takeStop_5 : decode cX10_takeStop 5 = .ok (.if_icmp .eq 4, 3) := by decide +kernel
theorem dX10_takeStop_8 : decode cX10_takeStop 8 = .ok (.return_, 1) := by decide +kernel
theorem dX10_takeStop_9 : decode cX10_takeStop 9 = .ok (.aload_n 0, 1) := by decide +kernel
theorem dX10_takeStop_10 : decode cX10_takeStop 10 = .ok (.getfield 39, 3) := by decide +kernel
theorem dX10_takeStop_13 : decode cX10_takeStop 13 = .ok (.iconst 5, 1) := by decide +kernel
theorem dX10_takeStop_14 : decode cX10_takeStop 14 = .ok (.if_icmp .ne 20, 3) := by decide +kernel
theorem dX10_takeStop_17 : decode cX10_takeStop 17 = .ok (.aload_n 0, 1) := by decide +kernel
theorem dX10_takeStop_18 : decode cX10_takeStop 18 = .ok (.dup, 1) := by decide +kernel
theorem dX10_takeStop_19 : decode cX10_takeStop 19 = .ok (.getfield 30, 3) := by decide +kernel
theorem dX10_takeStop_22 : decode cX10_takeStop 22 = .ok (.iconst 1, 1) := by decide +kernel
theorem dX10_takeStop_23 : decode cX10_takeStop 23 = .ok (.iadd, 1) := by decide +kernel
theorem dX10_takeStop_24 : decode cX10_takeStop 24 = .ok (.putfield 30, 3) := by decide +kernel
theorem dX10_takeStop_27 : decode cX10_takeStop 27 = .ok (.aload_n 0, 1) := by decide +kernel
theorem dX10_takeStop_28 : decode cX10_takeStop 28 = .ok (.invokevirtual 36, 3) := by decide +kernel
theorem dX10_takeStop_31 : decode cX10_takeStop 31 = .ok (.goto 11, 3) := by decide +kernel
theorem dX10_takeStop_34 : decode cX10_takeStop 34 = .ok (.aload_n 0, 1) := by decide +kernel
theorem dX10_takeStop_35 : decode cX10_takeStop 35 = .ok (.aload_n 0, 1) := by decide +kernel
theorem dX10_takeStop_36 : decode cX10_takeStop 36 = .ok (.getfield 81, 3) := by decide +kernel
theorem dX10_takeStop_39 : decode cX10_takeStop 39 = .ok (.putfield 33, 3) := by decide +kernel
theorem dX10_takeStop_42 : decode cX10_takeStop 42 = .ok (.return_, 1) := by decide +kernel
theorem dX10_takeNumbers_0 : decode cX10_takeNumbers 0 = .ok (.aload_n 0, 1) := by decide +kernel
theorem dX10_takeNumbers_1 : decode cX10_takeNumbers 1 = .ok (.invokevirtual 36, 3) := by decide +kernel
theorem dX10_takeNumbers_4 : decode cX10_takeNumbers 4 = .ok (.iconst 0, 1) := by decide +kernel
theorem dX10_takeNumbers_5 : decode cX10_takeNumbers 5 = .ok (.istore_n 3, 1) := by decide +kernel
theorem dX10_takeNumbers_6 : decode cX10_takeNumbers 6 = .ok (.iload_n 3, 1) := by decide +kernel
theorem dX10_takeNumbers_7 : decode cX10_takeNumbers 7 = .ok (.aload_n 1, 1) := by decide +kernel
theorem dX10_takeNumbers_8 : decode cX10_takeNumbers 8 = .ok (.arraylength, 1) := by decide +kernel
theorem dX10_takeNumbers_9 : decode cX10_takeNumbers 9 = .ok (.if_icmp .ge 72, 3) := by decide +kernel
theorem dX10_takeNumbers_12 : decode cX10_takeNumbers 12 = .ok (.iload_n 3, 1) := by decide +kernel
theorem dX10_takeNumbers_13 : decode cX10_takeNumbers 13 = .ok (.aload_n 2, 1) := by decide +kernel
theorem dX10_takeNumbers_14 : decode cX10_takeNumbers 14 = .ok (.arraylength, 1) := by decide +kernel
theorem dX10_takeNumbers_15 : decode cX10_takeNumbers 15 = .ok (.if_icmp .ge 66, 3) := by decide +kernel
theorem dX10_takeNumbers_18 : decode cX10_takeNumbers 18 = .ok (.iload_n 3, 1) := by decide +kernel
theorem dX10_takeNumbers_19 : decode cX10_takeNumbers 19 = .ok (.aload_n 0, 1) := by decide +kernel
theorem dX10_takeNumbers_20 : decode cX10_takeNumbers 20 = .ok (.getfield 15, 3) := by decide +kernel
theorem dX10_takeNumbers_23 : decode cX10_takeNumbers 23 = .ok (.arraylength, 1) := by decide +kernel
theorem dX10_takeNumbers_24 : decode cX10_takeNumbers 24 = .ok (.if_icmp .ge 57, 3) := by decide +kernel
theorem dX10_takeNumbers_27 : decode cX10_takeNumbers 27 = .ok (.aload_n 0, 1) := by decide +kernel
theorem dX10_takeNumbers_28 : decode cX10_takeNumbers 28 = .ok (.getfield 39, 3) := by decide +kernel
theorem dX10_takeNumbers_31 : decode cX10_takeNumbers 31 = .ok (.iconst 4, 1) := by decide +kernel
theorem dX10_takeNumbers_32 : decode cX10_takeNumbers 32 = .ok (.if_icmp .ne 19, 3) := by decide +kernel
theorem dX10_takeNumbers_35 : decode cX10_takeNumbers 35 = .ok (.aload_n 0, 1) := by decide +kernel
theorem dX10_takeNumbers_36 : decode cX10_takeNumbers 36 = .ok (.getfield 84, 3) := by decide +kernel
theorem dX10_takeNumbers_39 : decode cX10_takeNumbers 39 = .ok (.aload_n 1, 1) := by decide +kernel
theorem dX10_takeNumbers_40 : decode cX10_takeNumbers 40 = .ok (.iload_n 3, 1) := by decide +kernel
theorem dX10_takeNumbers_41 : decode cX10_takeNumbers 41 = .ok (.iaload, 1) := by decide +kernel
theorem dX10_takeNumbers_42 : decode cX10_takeNumbers 42 = .ok (.aload_n 2, 1) := by decide +kernel
theorem dX10_takeNumbers_43 : decode cX10_takeNumbers 43 = .ok (.iload_n 3, 1) := by decide +kernel
theorem dX10_takeNumbers_44 : decode cX10_takeNumbers 44 = .ok (.iaload, 1) := by decide +kernel
theorem dX10_takeNumbers_45 : decode cX10_takeNumbers 45 = .ok (.invokestatic 23, 3) := by decide +kernel
theorem dX10_takeNumbers_48 : decode cX10_takeNumbers 48 = .ok (.ifCond .ne 13, 3) := by decide +kernel
theorem dX10_takeNumbers_51 : decode cX10_takeNumbers 51 = .ok (.aload_n 0, 1) := by decide +kernel
theorem dX10_takeNumbers_52 : decode cX10_takeNumbers 52 = .ok (.aload_n 0, 1) := by decide +kernel
theorem dX10_takeNumbers_53 : decode cX10_takeNumbers 53 = .ok (.getfield 81, 3) := by decide +kernel
theorem dX10_takeNumbers_56 : decode cX10_takeNumbers 56 = .ok (.putfield 33, 3) := by decide +kernel
theorem dX10_takeNumbers_59 : decode cX10_takeNumbers 59 = .ok (.iconst 0, 1) := by decide +kernel
theorem dX10_takeNumbers_60 : decode cX10_takeNumbers 60 = .ok (.ireturn, 1) := by decide +kernel
theorem dX10_takeNumbers_61 : decode cX10_takeNumbers 61 = .ok (.aload_n 0, 1) := by decide +kernel
theorem dX10_takeNumbers_62 : decode cX10_takeNumbers 62 = .ok (.getfield 15, 3) := by decide +kernel
theorem dX10_takeNumbers_65 : decode cX10_takeNumbers 65 = .ok (.iload_n 3, 1) := by decide +kernel
theorem dX10_takeNumbers_66 : decode cX10_takeNumbers 66 = .ok (.aload_n 0, 1) := by decide +kernel
theorem dX10_takeNumbers_67 : decode cX10_takeNumbers 67 = .ok (.getfield 84, 3) := by decide +kernel
theorem dX10_takeNumbers_70 : decode cX10_takeNumbers 70 = .ok (.iastore, 1) := by decide +kernel
theorem dX10_takeNumbers_71 : decode cX10_takeNumbers 71 = .ok (.aload_n 0, 1) := by decide +kernel
theorem dX10_takeNumbers_72 : decode cX10_takeNumbers 72 = .ok (.invokevirtual 36, 3) := by decide +kernel
theorem dX10_takeNumbers_75 : decode cX10_takeNumbers 75 = .ok (.iinc 3 1, 3) := by decide +kernel
theorem dX10_takeNumbers_78 : decode cX10_takeNumbers 78 = .ok (.goto (-72), 3) := by decide +kernel
theorem dX10_takeNumbers_81 : decode cX10_takeNumbers 81 = .ok (.iconst 1, 1) := by decide +kernel
theorem dX10_takeNumbers_82 : decode cX10_takeNumbers 82 = .ok (.ireturn, 1) := by decide +kernel
theorem dX10_takeOver_0 : decode cX10_takeOver 0 = .ok (.aload_n 0, 1) := by decide +kernel
theorem dX10_takeOver_1 : decode cX10_takeOver 1 = .ok (.invokevirtual 36, 3) := by decide +kernel
theorem dX10_takeOver_4 : decode cX10_takeOver 4 = .ok (.aload_n 0, 1) := by decide +kernel
theorem dX10_takeOver_5 : decode cX10_takeOver 5 = .ok (.getfield 39, 3) := by decide +kernel
theorem dX10_takeOver_8 : decode cX10_takeOver 8 = .ok (.iconst 4, 1) := by decide +kernel
theorem dX10_takeOver_9 : decode cX10_takeOver 9 = .ok (.if_icmp .ne 33, 3) := by decide +kernel
theorem dX10_takeOver_12 : decode cX10_takeOver 12 = .ok (.aload_n 1, 1) := by decide +kernel
theorem dX10_takeOver_13 : decode cX10_takeOver 13 = .ok (.aload_n 0, 1) := by decide +kernel
theorem dX10_takeOver_14 : decode cX10_takeOver 14 = .ok (.getfield 84, 3) := by decide +kernel
theorem dX10_takeOver_17 : decode cX10_takeOver 17 = .ok (.aload_n 1, 1) := by decide +kernel
theorem dX10_takeOver_18 : decode cX10_takeOver 18 = .ok (.getfield 87, 3) := by decide +kernel
theorem dX10_takeOver_21 : decode cX10_takeOver 21 = .ok (.invokevirtual 90, 3) := by decide +kernel
theorem dX10_takeOver_24 : decode cX10_takeOver 24 = .ok (.ifCond .eq 18, 3) := by decide +kernel
theorem dX10_takeOver_27 : decode cX10_takeOver 27 = .ok (.aload_n 1, 1) := by decide +kernel
theorem dX10_takeOver_28 : decode cX10_takeOver 28 = .ok (.aload_n 0, 1) := by decide +kernel
theorem dX10_takeOver_29 : decode cX10_takeOver 29 = .ok (.getfield 84, 3) := by decide +kernel
theorem dX10_takeOver_32 : decode cX10_takeOver 32 = .ok (.invokevirtual 94, 3) := by decide +kernel
theorem dX10_takeOver_35 : decode cX10_takeOver 35 = .ok (.aload_n 0, 1) := by decide +kernel
theorem dX10_takeOver_36 : decode cX10_takeOver 36 = .ok (.invokevirtual 36, 3) := by decide +kernel
theorem dX10_takeOver_39 : decode cX10_takeOver 39 = .ok (.goto 11, 3) := by decide +kernel
theorem dX10_takeOver_42 : decode cX10_takeOver 42 = .ok (.aload_n 0, 1) := by decide +kernel
theorem dX10_takeOver_43 : decode cX10_takeOver 43 = .ok (.aload_n 0, 1) := by decide +kernel
theorem dX10_takeOver_44 : decode cX10_takeOver 44 = .ok (.getfield 81, 3) := by decide +kernel
theorem dX10_takeOver_47 : decode cX10_takeOver 47 = .ok (.putfield 33, 3) := by decide +kernel
theorem dX10_takeOver_50 : decode cX10_takeOver 50 = .ok (.return_, 1) := by decide +kernel
theorem dX10_step_0 : decode cX10_step 0 = .ok (.aload_n 0, 1) := by decide +kernel
theorem dX10_step_1 : decode cX10_step 1 = .ok (.getfield 27, 3) := by decide +kernel
theorem dX10_step_4 : decode cX10_step 4 = .ok (.aload_n 0, 1) := by decide +kernel
theorem dX10_step_5 : decode cX10_step 5 = .ok (.getfield 19, 3) := by decide +kernel
theorem dX10_step_8 : decode cX10_step 8 = .ok (.if_icmp .ge 29, 3) := by decide +kernel
theorem dX10_step_11 : decode cX10_step 11 = .ok (.aload_n 0, 1) := by decide +kernel
theorem dX10_step_12 : decode cX10_step 12 = .ok (.aload_n 0, 1) := by decide +kernel
theorem dX10_step_13 : decode cX10_step 13 = .ok (.getfield 27, 3) := by decide +kernel
theorem dX10_step_16 : decode cX10_step 16 = .ok (.invokevirtual 98, 3) := by decide +kernel
theorem dX10_step_19 : decode cX10_step 19 = .ok (.bipush 32, 2) := by decide +kernel
theorem dX10_step_21 : decode cX10_step 21 = .ok (.if_icmp .ne 16, 3) := by decide +kernel
theorem dX10_step_24 : decode cX10_step 24 = .ok (.aload_n 0, 1) := by decide +kernel
theorem dX10_step_25 : decode cX10_step 25 = .ok (.dup, 1) := by decide +kernel
theorem dX10_step_26 : decode cX10_step 26 = .ok (.getfield 27, 3) := by decide +kernel
theorem dX10_step_29 : decode cX10_step 29 = .ok (.iconst 1, 1) := by decide +kernel
theorem dX10_step_30 : decode cX10_step 30 = .ok (.iadd, 1) := by decide +kernel
theorem dX10_step_31 : decode cX10_step 31 = .ok (.putfield 27, 3) := by decide +kernel
theorem dX10_step_34 : decode cX10_step 34 = .ok (.goto (-34), 3) := by decide +kernel
theorem dX10_step_37 : decode cX10_step 37 = .ok (.aload_n 0, 1) := by decide +kernel
theorem dX10_step_38 : decode cX10_step 38 = .ok (.aload_n 0, 1) := by decide +kernel
theorem dX10_step_39 : decode cX10_step 39 = .ok (.getfield 27, 3) := by decide +kernel
theorem dX10_step_42 : decode cX10_step 42 = .ok (.putfield 81, 3) := by decide +kernel
theorem dX10_step_45 : decode cX10_step 45 = .ok (.aload_n 0, 1) := by decide +kernel
theorem dX10_step_46 : decode cX10_step 46 = .ok (.getfield 27, 3) := by decide +kernel
theorem dX10_step_49 : decode cX10_step 49 = .ok (.aload_n 0, 1) := by decide +kernel
theorem dX10_step_50 : decode cX10_step 50 = .ok (.getfield 19, 3) := by decide +kernel
theorem dX10_step_53 : decode cX10_step 53 = .ok (.if_icmp .lt 11, 3) := by decide +kernel
theorem dX10_step_56 : decode cX10_step 56 = .ok (.aload_n 0, 1) := by decide +kernel
theorem dX10_step_57 : decode cX10_step 57 = .ok (.iconst 0, 1) := by decide +kernel
theorem dX10_step_58 : decode cX10_step 58 = .ok (.putfield 39, 3) := by decide +kernel
theorem dX10_step_61 : decode cX10_step 61 = .ok (.goto 78, 3) := by decide +kernel
theorem dX10_step_64 : decode cX10_step 64 = .ok (.aload_n 0, 1) := by decide +kernel
theorem dX10_step_65 : decode cX10_step 65 = .ok (.aload_n 0, 1) := by decide +kernel
theorem dX10_step_66 : decode cX10_step 66 = .ok (.getfield 27, 3) := by decide +kernel
theorem dX10_step_69 : decode cX10_step 69 = .ok (.invokevirtual 98, 3) := by decide +kernel
theorem dX10_step_72 : decode cX10_step 72 = .ok (.invokestatic 102, 3) := by decide +kernel
theorem dX10_step_75 : decode cX10_step 75 = .ok (.ifCond .eq 10, 3) := by decide +kernel
theorem dX10_step_78 : decode cX10_step 78 = .ok (.aload_n 0, 1) := by decide +kernel
theorem dX10_step_79 : decode cX10_step 79 = .ok (.invokevirtual 106, 3) := by decide +kernel
theorem dX10_step_82 : decode cX10_step 82 = .ok (.goto 57, 3) := by decide +kernel
theorem dX10_step_85 : decode cX10_step 85 = .ok (.aload_n 0, 1) := by decide +kernel
theorem dX10_step_86 : decode cX10_step 86 = .ok (.aload_n 0, 1) := by decide +kernel
theorem dX10_step_87 : decode cX10_step 87 = .ok (.getfield 27, 3) := by decide +kernel
theorem dX10_step_90 : decode cX10_step 90 = .ok (.invokevirtual 98, 3) := by decide +kernel
theorem dX10_step_93 : decode cX10_step 93 = .ok (.invokestatic 109, 3) := by decide +kernel
theorem dX10_step_96 : decode cX10_step 96 = .ok (.ifCond .eq 10, 3) := by decide +kernel
theorem dX10_step_99 : decode cX10_step 99 = .ok (.aload_n 0, 1) := by decide +kernel
theorem dX10_step_100 : decode cX10_step 100 = .ok (.invokevirtual 112, 3) := by decide +kernel
theorem dX10_step_103 : decode cX10_step 103 = .ok (.goto 36, 3) := by decide +kernel
theorem dX10_step_106 : decode cX10_step 106 = .ok (.aload_n 0, 1) := by decide +kernel
theorem dX10_step_107 : decode cX10_step 107 = .ok (.aload_n 0, 1) := by decide +kernel
theorem dX10_step_108 : decode cX10_step 108 = .ok (.aload_n 0, 1) := by decide +kernel
theorem dX10_step_109 : decode cX10_step 109 = .ok (.getfield 27, 3) := by decide +kernel
theorem dX10_step_112 : decode cX10_step 112 = .ok (.invokevirtual 98, 3) := by decide +kernel
theorem dX10_step_115 : decode cX10_step 115 = .ok (.bipush 59, 2) := by decide +kernel
theorem dX10_step_117 : decode cX10_step 117 = .ok (.if_icmp .ne 7, 3) := by decide +kernel
theorem dX10_step_120 : decode cX10_step 120 = .ok (.iconst 5, 1) := by decide +kernel
theorem dX10_step_121 : decode cX10_step 121 = .ok (.goto 5, 3) := by decide +kernel
theorem dX10_step_124 : decode cX10_step 124 = .ok (.bipush 6, 2) := by decide +kernel
theorem dX10_step_126 : decode cX10_step 126 = .ok (.putfield 39, 3) := by decide +kernel
theorem dX10_step_129 : decode cX10_step 129 = .ok (.aload_n 0, 1) := by decide +kernel
theorem dX10_step_130 : decode cX10_step 130 = .ok (.dup, 1) := by decide +kernel
theorem dX10_step_131 : decode cX10_step 131 = .ok (.getfield 27, 3) := by decide +kernel
theorem dX10_step_134 : decode cX10_step 134 = .ok (.iconst 1, 1) := by decide +kernel
theorem dX10_step_135 : decode cX10_step 135 = .ok (.iadd, 1) := by decide +kernel
theorem dX10_step_136 : decode cX10_step 136 = .ok (.putfield 27, 3) := by decide +kernel
theorem dX10_step_139 : decode cX10_step 139 = .ok (.return_, 1) := by decide +kernel
theorem dX10_takeWord_0 : decode cX10_takeWord 0 = .ok (.aload_n 0, 1) := by decide +kernel
theorem dX10_takeWord_1 : decode cX10_takeWord 1 = .ok (.getfield 27, 3) := by decide +kernel
theorem dX10_takeWord_4 : decode cX10_takeWord 4 = .ok (.aload_n 0, 1) := by decide +kernel
theorem dX10_takeWord_5 : decode cX10_takeWord 5 = .ok (.getfield 19, 3) := by decide +kernel
theorem dX10_takeWord_8 : decode cX10_takeWord 8 = .ok (.if_icmp .ge 30, 3) := by decide +kernel
theorem dX10_takeWord_11 : decode cX10_takeWord 11 = .ok (.aload_n 0, 1) := by decide +kernel
theorem dX10_takeWord_12 : decode cX10_takeWord 12 = .ok (.aload_n 0, 1) := by decide +kernel
theorem dX10_takeWord_13 : decode cX10_takeWord 13 = .ok (.getfield 27, 3) := by decide +kernel
theorem dX10_takeWord_16 : decode cX10_takeWord 16 = .ok (.invokevirtual 98, 3) := by decide +kernel
theorem dX10_takeWord_19 : decode cX10_takeWord 19 = .ok (.invokestatic 102, 3) := by decide +kernel
theorem dX10_takeWord_22 : decode cX10_takeWord 22 = .ok (.ifCond .eq 16, 3) := by decide +kernel
theorem dX10_takeWord_25 : decode cX10_takeWord 25 = .ok (.aload_n 0, 1) := by decide +kernel
theorem dX10_takeWord_26 : decode cX10_takeWord 26 = .ok (.dup, 1) := by decide +kernel
theorem dX10_takeWord_27 : decode cX10_takeWord 27 = .ok (.getfield 27, 3) := by decide +kernel
theorem dX10_takeWord_30 : decode cX10_takeWord 30 = .ok (.iconst 1, 1) := by decide +kernel
theorem dX10_takeWord_31 : decode cX10_takeWord 31 = .ok (.iadd, 1) := by decide +kernel
theorem dX10_takeWord_32 : decode cX10_takeWord 32 = .ok (.putfield 27, 3) := by decide +kernel
theorem dX10_takeWord_35 : decode cX10_takeWord 35 = .ok (.goto (-35), 3) := by decide +kernel
theorem dX10_takeWord_38 : decode cX10_takeWord 38 = .ok (.aload_n 0, 1) := by decide +kernel
theorem dX10_takeWord_39 : decode cX10_takeWord 39 = .ok (.ldc 115, 2) := by decide +kernel
theorem dX10_takeWord_41 : decode cX10_takeWord 41 = .ok (.invokevirtual 117, 3) := by decide +kernel
theorem dX10_takeWord_44 : decode cX10_takeWord 44 = .ok (.ifCond .eq 11, 3) := by decide +kernel
theorem dX10_takeWord_47 : decode cX10_takeWord 47 = .ok (.aload_n 0, 1) := by decide +kernel
theorem dX10_takeWord_48 : decode cX10_takeWord 48 = .ok (.iconst 1, 1) := by decide +kernel
theorem dX10_takeWord_49 : decode cX10_takeWord 49 = .ok (.putfield 39, 3) := by decide +kernel
theorem dX10_takeWord_52 : decode cX10_takeWord 52 = .ok (.goto 39, 3) := by decide +kernel
theorem dX10_takeWord_55 : decode cX10_takeWord 55 = .ok (.aload_n 0, 1) := by decide +kernel
theorem dX10_takeWord_56 : decode cX10_takeWord 56 = .ok (.ldc 121, 2) := by decide +kernel
theorem dX10_takeWord_58 : decode cX10_takeWord 58 = .ok (.invokevirtual 117, 3) := by decide +kernel
theorem dX10_takeWord_61 : decode cX10_takeWord 61 = .ok (.ifCond .eq 11, 3) := by decide +kernel
theorem dX10_takeWord_64 : decode cX10_takeWord 64 = .ok (.aload_n 0, 1) := by decide +kernel
theorem dX10_takeWord_65 : decode cX10_takeWord 65 = .ok (.iconst 2, 1) := by decide +kernel
theorem dX10_takeWord_66 : decode cX10_takeWord 66 = .ok (.putfield 39, 3) := by decide +kernel
theorem dX10_takeWord_69 : decode cX10_takeWord 69 = .ok (.goto 22, 3) := by decide +kernel
theorem dX10_takeWord_72 : decode cX10_takeWord 72 = .ok (.aload_n 0, 1) := by decide +kernel
theorem dX10_takeWord_73 : decode cX10_takeWord 73 = .ok (.aload_n 0, 1) := by decide +kernel
theorem dX10_takeWord_74 : decode cX10_takeWord 74 = .ok (.ldc 123, 2) := by decide +kernel
theorem dX10_takeWord_76 : decode cX10_takeWord 76 = .ok (.invokevirtual 117, 3) := by decide +kernel
theorem dX10_takeWord_79 : decode cX10_takeWord 79 = .ok (.ifCond .eq 7, 3) := by decide +kernel
theorem dX10_takeWord_82 : decode cX10_takeWord 82 = .ok (.iconst 3, 1) := by decide +kernel
theorem dX10_takeWord_83 : decode cX10_takeWord 83 = .ok (.goto 5, 3) := by decide +kernel
theorem dX10_takeWord_86 : decode cX10_takeWord 86 = .ok (.bipush 6, 2) := by decide +kernel
theorem dX10_takeWord_88 : decode cX10_takeWord 88 = .ok (.putfield 39, 3) := by decide +kernel
theorem dX10_takeWord_91 : decode cX10_takeWord 91 = .ok (.return_, 1) := by decide +kernel
theorem dX10_spells_0 : decode cX10_spells 0 = .ok (.aload_n 1, 1) := by decide +kernel
theorem dX10_spells_1 : decode cX10_spells 1 = .ok (.invokevirtual 125, 3) := by decide +kernel
theorem dX10_spells_4 : decode cX10_spells 4 = .ok (.aload_n 0, 1) := by decide +kernel
theorem dX10_spells_5 : decode cX10_spells 5 = .ok (.getfield 27, 3) := by decide +kernel
theorem dX10_spells_8 : decode cX10_spells 8 = .ok (.aload_n 0, 1) := by decide +kernel
theorem dX10_spells_9 : decode cX10_spells 9 = .ok (.getfield 81, 3) := by decide +kernel
theorem dX10_spells_12 : decode cX10_spells 12 = .ok (.isub, 1) := by decide +kernel
theorem dX10_spells_13 : decode cX10_spells 13 = .ok (.if_icmp .eq 5, 3) := by decide +kernel
theorem dX10_spells_16 : decode cX10_spells 16 = .ok (.iconst 0, 1) := by decide +kernel
theorem dX10_spells_17 : decode cX10_spells 17 = .ok (.ireturn, 1) := by decide +kernel
theorem dX10_spells_18 : decode cX10_spells 18 = .ok (.iconst 0, 1) := by decide +kernel
theorem dX10_spells_19 : decode cX10_spells 19 = .ok (.istore_n 2, 1) := by decide +kernel
theorem dX10_spells_20 : decode cX10_spells 20 = .ok (.iload_n 2, 1) := by decide +kernel
theorem dX10_spells_21 : decode cX10_spells 21 = .ok (.aload_n 1, 1) := by decide +kernel
theorem dX10_spells_22 : decode cX10_spells 22 = .ok (.invokevirtual 125, 3) := by decide +kernel
theorem dX10_spells_25 : decode cX10_spells 25 = .ok (.if_icmp .ge 29, 3) := by decide +kernel
theorem dX10_spells_28 : decode cX10_spells 28 = .ok (.aload_n 1, 1) := by decide +kernel
theorem dX10_spells_29 : decode cX10_spells 29 = .ok (.iload_n 2, 1) := by decide +kernel
theorem dX10_spells_30 : decode cX10_spells 30 = .ok (.invokevirtual 130, 3) := by decide +kernel
theorem dX10_spells_33 : decode cX10_spells 33 = .ok (.aload_n 0, 1) := by decide +kernel
theorem dX10_spells_34 : decode cX10_spells 34 = .ok (.aload_n 0, 1) := by decide +kernel
theorem dX10_spells_35 : decode cX10_spells 35 = .ok (.getfield 81, 3) := by decide +kernel
theorem dX10_spells_38 : decode cX10_spells 38 = .ok (.iload_n 2, 1) := by decide +kernel
theorem dX10_spells_39 : decode cX10_spells 39 = .ok (.iadd, 1) := by decide +kernel
theorem dX10_spells_40 : decode cX10_spells 40 = .ok (.invokevirtual 98, 3) := by decide +kernel
theorem dX10_spells_43 : decode cX10_spells 43 = .ok (.if_icmp .eq 5, 3) := by decide +kernel
theorem dX10_spells_46 : decode cX10_spells 46 = .ok (.iconst 0, 1) := by decide +kernel
theorem dX10_spells_47 : decode cX10_spells 47 = .ok (.ireturn, 1) := by decide +kernel
theorem dX10_spells_48 : decode cX10_spells 48 = .ok (.iinc 2 1, 3) := by decide +kernel
theorem dX10_spells_51 : decode cX10_spells 51 = .ok (.goto (-31), 3) := by decide +kernel
theorem dX10_spells_54 : decode cX10_spells 54 = .ok (.iconst 1, 1) := by decide +kernel
theorem dX10_spells_55 : decode cX10_spells 55 = .ok (.ireturn, 1) := by decide +kernel
theorem dX10_takeFigures_0 : decode cX10_takeFigures 0 = .ok (.aload_n 0, 1) := by decide +kernel
theorem dX10_takeFigures_1 : decode cX10_takeFigures 1 = .ok (.iconst 0, 1) := by decide +kernel
theorem dX10_takeFigures_2 : decode cX10_takeFigures 2 = .ok (.putfield 84, 3) := by decide +kernel
theorem dX10_takeFigures_5 : decode cX10_takeFigures 5 = .ok (.aload_n 0, 1) := by decide +kernel
theorem dX10_takeFigures_6 : decode cX10_takeFigures 6 = .ok (.getfield 27, 3) := by decide +kernel
theorem dX10_takeFigures_9 : decode cX10_takeFigures 9 = .ok (.aload_n 0, 1) := by decide +kernel
theorem dX10_takeFigures_10 : decode cX10_takeFigures 10 = .ok (.getfield 19, 3) := by decide +kernel
theorem dX10_takeFigures_13 : decode cX10_takeFigures 13 = .ok (.if_icmp .ge 66, 3) := by decide +kernel
theorem dX10_takeFigures_16 : decode cX10_takeFigures 16 = .ok (.aload_n 0, 1) := by decide +kernel
theorem dX10_takeFigures_17 : decode cX10_takeFigures 17 = .ok (.aload_n 0, 1) := by decide +kernel
theorem dX10_takeFigures_18 : decode cX10_takeFigures 18 = .ok (.getfield 27, 3) := by decide +kernel
theorem dX10_takeFigures_21 : decode cX10_takeFigures 21 = .ok (.invokevirtual 98, 3) := by decide +kernel
theorem dX10_takeFigures_24 : decode cX10_takeFigures 24 = .ok (.invokestatic 109, 3) := by decide +kernel
theorem dX10_takeFigures_27 : decode cX10_takeFigures 27 = .ok (.ifCond .eq 52, 3) := by decide +kernel
theorem dX10_takeFigures_30 : decode cX10_takeFigures 30 = .ok (.aload_n 0, 1) := by decide +kernel
theorem dX10_takeFigures_31 : decode cX10_takeFigures 31 = .ok (.getfield 27, 3) := by decide +kernel
theorem dX10_takeFigures_34 : decode cX10_takeFigures 34 = .ok (.aload_n 0, 1) := by decide +kernel
theorem dX10_takeFigures_35 : decode cX10_takeFigures 35 = .ok (.getfield 81, 3) := by decide +kernel
theorem dX10_takeFigures_38 : decode cX10_takeFigures 38 = .ok (.isub, 1) := by decide +kernel
theorem dX10_takeFigures_39 : decode cX10_takeFigures 39 = .ok (.iconst 3, 1) := by decide +kernel
theorem dX10_takeFigures_40 : decode cX10_takeFigures 40 = .ok (.if_icmp .ge 26, 3) := by decide +kernel
theorem dX10_takeFigures_43 : decode cX10_takeFigures 43 = .ok (.aload_n 0, 1) := by decide +kernel
theorem dX10_takeFigures_44 : decode cX10_takeFigures 44 = .ok (.aload_n 0, 1) := by decide +kernel
theorem dX10_takeFigures_45 : decode cX10_takeFigures 45 = .ok (.getfield 84, 3) := by decide +kernel
theorem dX10_takeFigures_48 : decode cX10_takeFigures 48 = .ok (.bipush 10, 2) := by decide +kernel
theorem dX10_takeFigures_50 : decode cX10_takeFigures 50 = .ok (.imul, 1) := by decide +kernel
theorem dX10_takeFigures_51 : decode cX10_takeFigures 51 = .ok (.aload_n 0, 1) := by decide +kernel
theorem dX10_takeFigures_52 : decode cX10_takeFigures 52 = .ok (.aload_n 0, 1) := by decide +kernel
theorem dX10_takeFigures_53 : decode cX10_takeFigures 53 = .ok (.getfield 27, 3) := by decide +kernel
theorem dX10_takeFigures_56 : decode cX10_takeFigures 56 = .ok (.invokevirtual 98, 3) := by decide +kernel
theorem dX10_takeFigures_59 : decode cX10_takeFigures 59 = .ok (.iadd, 1) := by decide +kernel
theorem dX10_takeFigures_60 : decode cX10_takeFigures 60 = .ok (.bipush 48, 2) := by decide +kernel
theorem dX10_takeFigures_62 : decode cX10_takeFigures 62 = .ok (.isub, 1) := by decide +kernel
theorem dX10_takeFigures_63 : decode cX10_takeFigures 63 = .ok (.putfield 84, 3) := by decide +kernel
theorem dX10_takeFigures_66 : decode cX10_takeFigures 66 = .ok (.aload_n 0, 1) := by decide +kernel
theorem dX10_takeFigures_67 : decode cX10_takeFigures 67 = .ok (.dup, 1) := by decide +kernel
theorem dX10_takeFigures_68 : decode cX10_takeFigures 68 = .ok (.getfield 27, 3) := by decide +kernel
theorem dX10_takeFigures_71 : decode cX10_takeFigures 71 = .ok (.iconst 1, 1) := by decide +kernel
theorem dX10_takeFigures_72 : decode cX10_takeFigures 72 = .ok (.iadd, 1) := by decide +kernel
theorem dX10_takeFigures_73 : decode cX10_takeFigures 73 = .ok (.putfield 27, 3) := by decide +kernel
theorem dX10_takeFigures_76 : decode cX10_takeFigures 76 = .ok (.goto (-71), 3) := by decide +kernel
theorem dX10_takeFigures_79 : decode cX10_takeFigures 79 = .ok (.aload_n 0, 1) := by decide +kernel
theorem dX10_takeFigures_80 : decode cX10_takeFigures 80 = .ok (.aload_n 0, 1) := by decide +kernel
theorem dX10_takeFigures_81 : decode cX10_takeFigures 81 = .ok (.getfield 27, 3) := by decide +kernel
theorem dX10_takeFigures_84 : decode cX10_takeFigures 84 = .ok (.aload_n 0, 1) := by decide +kernel
theorem dX10_takeFigures_85 : decode cX10_takeFigures 85 = .ok (.getfield 81, 3) := by decide +kernel
theorem dX10_takeFigures_88 : decode cX10_takeFigures 88 = .ok (.isub, 1) := by decide +kernel
theorem dX10_takeFigures_89 : decode cX10_takeFigures 89 = .ok (.iconst 3, 1) := by decide +kernel
theorem dX10_takeFigures_90 : decode cX10_takeFigures 90 = .ok (.if_icmp .gt 7, 3) := by decide +kernel
theorem dX10_takeFigures_93 : decode cX10_takeFigures 93 = .ok (.iconst 4, 1) := by decide +kernel
theorem dX10_takeFigures_94 : decode cX10_takeFigures 94 = .ok (.goto 5, 3) := by decide +kernel
theorem dX10_takeFigures_97 : decode cX10_takeFigures 97 = .ok (.bipush 6, 2) := by decide +kernel
theorem dX10_takeFigures_99 : decode cX10_takeFigures 99 = .ok (.putfield 39, 3) := by decide +kernel
theorem dX10_takeFigures_102 : decode cX10_takeFigures 102 = .ok (.return_, 1) := by decide +kernel
theorem dX10_byteAt_0 : decode cX10_byteAt 0 = .ok (.iload_n 1, 1) := by decide +kernel
theorem dX10_byteAt_1 : decode cX10_byteAt 1 = .ok (.ifCond .lt 19, 3) := by decide +kernel
theorem dX10_byteAt_4 : decode cX10_byteAt 4 = .ok (.iload_n 1, 1) := by decide +kernel
theorem dX10_byteAt_5 : decode cX10_byteAt 5 = .ok (.sipush 150, 3) := by decide +kernel
theorem dX10_byteAt_8 : decode cX10_byteAt 8 = .ok (.if_icmp .ge 12, 3) := by decide +kernel
theorem dX10_byteAt_11 : decode cX10_byteAt 11 = .ok (.aload_n 0, 1) := by decide +kernel
theorem dX10_byteAt_12 : decode cX10_byteAt 12 = .ok (.getfield 9, 3) := by decide +kernel
theorem dX10_byteAt_15 : decode cX10_byteAt 15 = .ok (.iload_n 1, 1) := by decide +kernel
theorem dX10_byteAt_16 : decode cX10_byteAt 16 = .ok (.baload, 1) := by decide +kernel
theorem dX10_byteAt_17 : decode cX10_byteAt 17 = .ok (.goto 4, 3) := by decide +kernel
theorem dX10_byteAt_20 : decode cX10_byteAt 20 = .ok (.iconst (-1), 1) := by decide +kernel
theorem dX10_byteAt_21 : decode cX10_byteAt 21 = .ok (.ireturn, 1) := by decide +kernel
theorem dX10_isLetter_0 : decode cX10_isLetter 0 = .ok (.iload_n 0, 1) := by decide +kernel
theorem dX10_isLetter_1 : decode cX10_isLetter 1 = .ok (.bipush 97, 2) := by decide +kernel
theorem dX10_isLetter_3 : decode cX10_isLetter 3 = .ok (.if_icmp .lt 13, 3) := by decide +kernel
theorem dX10_isLetter_6 : decode cX10_isLetter 6 = .ok (.iload_n 0, 1) := by decide +kernel
theorem dX10_isLetter_7 : decode cX10_isLetter 7 = .ok (.bipush 122, 2) := by decide +kernel
theorem dX10_isLetter_9 : decode cX10_isLetter 9 = .ok (.if_icmp .gt 7, 3) := by decide +kernel
theorem dX10_isLetter_12 : decode cX10_isLetter 12 = .ok (.iconst 1, 1) := by decide +kernel
theorem dX10_isLetter_13 : decode cX10_isLetter 13 = .ok (.goto 4, 3) := by decide +kernel
theorem dX10_isLetter_16 : decode cX10_isLetter 16 = .ok (.iconst 0, 1) := by decide +kernel
theorem dX10_isLetter_17 : decode cX10_isLetter 17 = .ok (.ireturn, 1) := by decide +kernel
theorem dX10_isFigure_0 : decode cX10_isFigure 0 = .ok (.iload_n 0, 1) := by decide +kernel
theorem dX10_isFigure_1 : decode cX10_isFigure 1 = .ok (.bipush 48, 2) := by decide +kernel
theorem dX10_isFigure_3 : decode cX10_isFigure 3 = .ok (.if_icmp .lt 13, 3) := by decide +kernel
theorem dX10_isFigure_6 : decode cX10_isFigure 6 = .ok (.iload_n 0, 1) := by decide +kernel
theorem dX10_isFigure_7 : decode cX10_isFigure 7 = .ok (.bipush 57, 2) := by decide +kernel
theorem dX10_isFigure_9 : decode cX10_isFigure 9 = .ok (.if_icmp .gt 7, 3) := by decide +kernel
theorem dX10_isFigure_12 : decode cX10_isFigure 12 = .ok (.iconst 1, 1) := by decide +kernel
theorem dX10_isFigure_13 : decode cX10_isFigure 13 = .ok (.goto 4, 3) := by decide +kernel
theorem dX10_isFigure_16 : decode cX10_isFigure 16 = .ok (.iconst 0, 1) := by decide +kernel
theorem dX10_isFigure_17 : decode cX10_isFigure 17 = .ok (.ireturn, 1) := by decide +kernel
theorem dJ6_bitCount_0f7a4_0 : decode cJ6_bitCount_0f7a4 0 = .ok (.iload_n 0, 1) := by decide +kernel
theorem dJ6_bitCount_0f7a4_1 : decode cJ6_bitCount_0f7a4 1 = .ok (.iload_n 0, 1) := by decide +kernel
theorem dJ6_bitCount_0f7a4_2 : decode cJ6_bitCount_0f7a4 2 = .ok (.iconst 1, 1) := by decide +kernel
theorem dJ6_bitCount_0f7a4_3 : decode cJ6_bitCount_0f7a4 3 = .ok (.iushr, 1) := by decide +kernel
theorem dJ6_bitCount_0f7a4_4 : decode cJ6_bitCount_0f7a4 4 = .ok (.ldc_w 265, 3) := by decide +kernel
theorem dJ6_bitCount_0f7a4_7 : decode cJ6_bitCount_0f7a4 7 = .ok (.iand, 1) := by decide +kernel
theorem dJ6_bitCount_0f7a4_8 : decode cJ6_bitCount_0f7a4 8 = .ok (.isub, 1) := by decide +kernel
theorem dJ6_bitCount_0f7a4_9 : decode cJ6_bitCount_0f7a4 9 = .ok (.istore_n 0, 1) := by decide +kernel
theorem dJ6_bitCount_0f7a4_10 : decode cJ6_bitCount_0f7a4 10 = .ok (.iload_n 0, 1) := by decide +kernel
theorem dJ6_bitCount_0f7a4_11 : decode cJ6_bitCount_0f7a4 11 = .ok (.ldc_w 266, 3) := by decide +kernel
theorem dJ6_bitCount_0f7a4_14 : decode cJ6_bitCount_0f7a4 14 = .ok (.iand, 1) := by decide +kernel
theorem dJ6_bitCount_0f7a4_15 : decode cJ6_bitCount_0f7a4 15 = .ok (.iload_n 0, 1) := by decide +kernel
theorem dJ6_bitCount_0f7a4_16 : decode cJ6_bitCount_0f7a4 16 = .ok (.iconst 2, 1) := by decide +kernel
theorem dJ6_bitCount_0f7a4_17 : decode cJ6_bitCount_0f7a4 17 = .ok (.iushr, 1) := by decide +kernel
theorem dJ6_bitCount_0f7a4_18 : decode cJ6_bitCount_0f7a4 18 = .ok (.ldc_w 266, 3) := by decide +kernel
theorem dJ6_bitCount_0f7a4_21 : decode cJ6_bitCount_0f7a4 21 = .ok (.iand, 1) := by decide +kernel
theorem dJ6_bitCount_0f7a4_22 : decode cJ6_bitCount_0f7a4 22 = .ok (.iadd, 1) := by decide +kernel
theorem dJ6_bitCount_0f7a4_23 : decode cJ6_bitCount_0f7a4 23 = .ok (.istore_n 0, 1) := by decide +kernel
theorem dJ6_bitCount_0f7a4_24 : decode cJ6_bitCount_0f7a4 24 = .ok (.iload_n 0, 1) := by decide +kernel
theorem dJ6_bitCount_0f7a4_25 : decode cJ6_bitCount_0f7a4 25 = .ok (.iload_n 0, 1) := by decide +kernel
theorem dJ6_bitCount_0f7a4_26 : decode cJ6_bitCount_0f7a4 26 = .ok (.iconst 4, 1) := by decide +kernel
theorem dJ6_bitCount_0f7a4_27 : decode cJ6_bitCount_0f7a4 27 = .ok (.iushr, 1) := by decide +kernel
theorem dJ6_bitCount_0f7a4_28 : decode cJ6_bitCount_0f7a4 28 = .ok (.iadd, 1) := by decide +kernel
theorem dJ6_bitCount_0f7a4_29 : decode cJ6_bitCount_0f7a4 29 = .ok (.ldc_w 267, 3) := by decide +kernel
theorem dJ6_bitCount_0f7a4_32 : decode cJ6_bitCount_0f7a4 32 = .ok (.iand, 1) := by decide +kernel
theorem dJ6_bitCount_0f7a4_33 : decode cJ6_bitCount_0f7a4 33 = .ok (.istore_n 0, 1) := by decide +kernel
theorem dJ6_bitCount_0f7a4_34 : decode cJ6_bitCount_0f7a4 34 = .ok (.iload_n 0, 1) := by decide +kernel
theorem dJ6_bitCount_0f7a4_35 : decode cJ6_bitCount_0f7a4 35 = .ok (.iload_n 0, 1) := by decide +kernel
theorem dJ6_bitCount_0f7a4_36 : decode cJ6_bitCount_0f7a4 36 = .ok (.bipush 8, 2) := by decide +kernel
theorem dJ6_bitCount_0f7a4_38 : decode cJ6_bitCount_0f7a4 38 = .ok (.iushr, 1) := by decide +kernel
theorem dJ6_bitCount_0f7a4_39 : decode cJ6_bitCount_0f7a4 39 = .ok (.iadd, 1) := by decide +kernel
theorem dJ6_bitCount_0f7a4_40 : decode cJ6_bitCount_0f7a4 40 = .ok (.istore_n 0, 1) := by decide +kernel
theorem dJ6_bitCount_0f7a4_41 : decode cJ6_bitCount_0f7a4 41 = .ok (.iload_n 0, 1) := by decide +kernel
theorem dJ6_bitCount_0f7a4_42 : decode cJ6_bitCount_0f7a4 42 = .ok (.iload_n 0, 1) := by decide +kernel
theorem dJ6_bitCount_0f7a4_43 : decode cJ6_bitCount_0f7a4 43 = .ok (.bipush 16, 2) := by decide +kernel
theorem dJ6_bitCount_0f7a4_45 : decode cJ6_bitCount_0f7a4 45 = .ok (.iushr, 1) := by decide +kernel
theorem dJ6_bitCount_0f7a4_46 : decode cJ6_bitCount_0f7a4 46 = .ok (.iadd, 1) := by decide +kernel
theorem dJ6_bitCount_0f7a4_47 : decode cJ6_bitCount_0f7a4 47 = .ok (.istore_n 0, 1) := by decide +kernel
theorem dJ6_bitCount_0f7a4_48 : decode cJ6_bitCount_0f7a4 48 = .ok (.iload_n 0, 1) := by decide +kernel
theorem dJ6_bitCount_0f7a4_49 : decode cJ6_bitCount_0f7a4 49 = .ok (.bipush 63, 2) := by decide +kernel
theorem dJ6_bitCount_0f7a4_51 : decode cJ6_bitCount_0f7a4 51 = .ok (.iand, 1) := by decide +kernel
theorem dJ6_bitCount_0f7a4_52 : decode cJ6_bitCount_0f7a4 52 = .ok (.ireturn, 1) := by decide +kernel
theorem dJ9_abs_067f4_0 : decode cJ9_abs_067f4 0 = .ok (.lload_n 0, 1) := by decide +kernel
theorem dJ9_abs_067f4_1 : decode cJ9_abs_067f4 1 = .ok (.lconst 0, 1) := by decide +kernel
theorem dJ9_abs_067f4_2 : decode cJ9_abs_067f4 2 = .ok (.lcmp, 1) := by decide +kernel
theorem dJ9_abs_067f4_3 : decode cJ9_abs_067f4 3 = .ok (.ifCond .ge 8, 3) := by decide +kernel
theorem dJ9_abs_067f4_6 : decode cJ9_abs_067f4 6 = .ok (.lload_n 0, 1) := by decide +kernel
theorem dJ9_abs_067f4_7 : decode cJ9_abs_067f4 7 = .ok (.lneg, 1) := by decide +kernel
theorem dJ9_abs_067f4_8 : decode cJ9_abs_067f4 8 = .ok (.goto 4, 3) := by decide +kernel
theorem dJ9_abs_067f4_11 : decode cJ9_abs_067f4 11 = .ok (.lload_n 0, 1) := by decide +kernel
theorem dJ9_abs_067f4_12 : decode cJ9_abs_067f4 12 = .ok (.lreturn, 1) := by decide +kernel
theorem dJ9_max_7cf53_0 : decode cJ9_max_7cf53 0 = .ok (.iload_n 0, 1) := by decide +kernel
theorem dJ9_max_7cf53_1 : decode cJ9_max_7cf53 1 = .ok (.iload_n 1, 1) := by decide +kernel
theorem dJ9_max_7cf53_2 : decode cJ9_max_7cf53 2 = .ok (.if_icmp .lt 7, 3) := by decide +kernel
theorem dJ9_max_7cf53_5 : decode cJ9_max_7cf53 5 = .ok (.iload_n 0, 1) := by decide +kernel
theorem dJ9_max_7cf53_6 : decode cJ9_max_7cf53 6 = .ok (.goto 4, 3) := by decide +kernel
theorem dJ9_max_7cf53_9 : decode cJ9_max_7cf53 9 = .ok (.iload_n 1, 1) := by decide +kernel
theorem dJ9_max_7cf53_10 : decode cJ9_max_7cf53 10 = .ok (.ireturn, 1) := by decide +kernel
theorem dJ9_min_7cf53_0 : decode cJ9_min_7cf53 0 = .ok (.iload_n 0, 1) := by decide +kernel
theorem dJ9_min_7cf53_1 : decode cJ9_min_7cf53 1 = .ok (.iload_n 1, 1) := by decide +kernel
theorem dJ9_min_7cf53_2 : decode cJ9_min_7cf53 2 = .ok (.if_icmp .gt 7, 3) := by decide +kernel
theorem dJ9_min_7cf53_5 : decode cJ9_min_7cf53 5 = .ok (.iload_n 0, 1) := by decide +kernel
theorem dJ9_min_7cf53_6 : decode cJ9_min_7cf53 6 = .ok (.goto 4, 3) := by decide +kernel
theorem dJ9_min_7cf53_9 : decode cJ9_min_7cf53 9 = .ok (.iload_n 1, 1) := by decide +kernel
theorem dJ9_min_7cf53_10 : decode cJ9_min_7cf53 10 = .ok (.ireturn, 1) := by decide +kernel
theorem dJ0_length_8abf5_0 : decode cJ0_length_8abf5 0 = .ok (.aload_n 0, 1) := by decide +kernel
theorem dJ0_length_8abf5_1 : decode cJ0_length_8abf5 1 = .ok (.getfield 9, 3) := by decide +kernel
theorem dJ0_length_8abf5_4 : decode cJ0_length_8abf5 4 = .ok (.arraylength, 1) := by decide +kernel
theorem dJ0_length_8abf5_5 : decode cJ0_length_8abf5 5 = .ok (.aload_n 0, 1) := by decide +kernel
theorem dJ0_length_8abf5_6 : decode cJ0_length_8abf5 6 = .ok (.invokevirtual 335, 3) := by decide +kernel
theorem dJ0_length_8abf5_9 : decode cJ0_length_8abf5 9 = .ok (.ishr, 1) := by decide +kernel
theorem dJ0_length_8abf5_10 : decode cJ0_length_8abf5 10 = .ok (.ireturn, 1) := by decide +kernel
theorem dJ0_charAt_5068e_0 : decode cJ0_charAt_5068e 0 = .ok (.aload_n 0, 1) := by decide +kernel
theorem dJ0_charAt_5068e_1 : decode cJ0_charAt_5068e 1 = .ok (.invokevirtual 492, 3) := by decide +kernel
theorem dJ0_charAt_5068e_4 : decode cJ0_charAt_5068e 4 = .ok (.ifCond .eq 12, 3) := by decide +kernel
theorem dJ0_charAt_5068e_7 : decode cJ0_charAt_5068e 7 = .ok (.aload_n 0, 1) := by decide +kernel
theorem dJ0_charAt_5068e_8 : decode cJ0_charAt_5068e 8 = .ok (.getfield 9, 3) := by decide +kernel
theorem dJ0_charAt_5068e_11 : decode cJ0_charAt_5068e 11 = .ok (.iload_n 1, 1) := by decide +kernel
theorem dJ0_charAt_5068e_12 : decode cJ0_charAt_5068e 12 = .ok (.invokestatic 495, 3) := by decide +kernel
theorem dJ0_charAt_5068e_15 : decode cJ0_charAt_5068e 15 = .ok (.ireturn, 1) := by decide +kernel
theorem dJ0_charAt_5068e_16 : decode cJ0_charAt_5068e 16 = .ok (.aload_n 0, 1) := by decide +kernel
theorem dJ0_charAt_5068e_17 : decode cJ0_charAt_5068e 17 = .ok (.getfield 9, 3) := by decide +kernel
theorem dJ0_charAt_5068e_20 : decode cJ0_charAt_5068e 20 = .ok (.iload_n 1, 1) := by decide +kernel
theorem dJ0_charAt_5068e_21 : decode cJ0_charAt_5068e 21 = .ok (.invokestatic 498, 3) := by decide +kernel
theorem dJ0_charAt_5068e_24 : decode cJ0_charAt_5068e 24 = .ok (.ireturn, 1) := by decide +kernel
theorem dJ0_coder_7d493_0 : decode cJ0_coder_7d493 0 = .ok (.getstatic 38, 3) := by decide +kernel
theorem dJ0_coder_7d493_3 : decode cJ0_coder_7d493 3 = .ok (.ifCond .eq 10, 3) := by decide +kernel
theorem dJ0_coder_7d493_6 : decode cJ0_coder_7d493 6 = .ok (.aload_n 0, 1) := by decide +kernel
theorem dJ0_coder_7d493_7 : decode cJ0_coder_7d493 7 = .ok (.getfield 15, 3) := by decide +kernel
theorem dJ0_coder_7d493_10 : decode cJ0_coder_7d493 10 = .ok (.goto 4, 3) := by decide +kernel
theorem dJ0_coder_7d493_13 : decode cJ0_coder_7d493 13 = .ok (.iconst 1, 1) := by decide +kernel
theorem dJ0_coder_7d493_14 : decode cJ0_coder_7d493 14 = .ok (.ireturn, 1) := by decide +kernel
theorem dJ0_isLatin1_aae02_0 : decode cJ0_isLatin1_aae02 0 = .ok (.getstatic 38, 3) := by decide +kernel
theorem dJ0_isLatin1_aae02_3 : decode cJ0_isLatin1_aae02 3 = .ok (.ifCond .eq 14, 3) := by decide +kernel
theorem dJ0_isLatin1_aae02_6 : decode cJ0_isLatin1_aae02 6 = .ok (.aload_n 0, 1) := by decide +kernel
theorem dJ0_isLatin1_aae02_7 : decode cJ0_isLatin1_aae02 7 = .ok (.getfield 15, 3) := by decide +kernel
theorem dJ0_isLatin1_aae02_10 : decode cJ0_isLatin1_aae02 10 = .ok (.ifCond .ne 7, 3) := by decide +kernel
theorem dJ0_isLatin1_aae02_13 : decode cJ0_isLatin1_aae02 13 = .ok (.iconst 1, 1) := by decide +kernel
theorem dJ0_isLatin1_aae02_14 : decode cJ0_isLatin1_aae02 14 = .ok (.goto 4, 3) := by decide +kernel
theorem dJ0_isLatin1_aae02_17 : decode cJ0_isLatin1_aae02 17 = .ok (.iconst 0, 1) := by decide +kernel
theorem dJ0_isLatin1_aae02_18 : decode cJ0_isLatin1_aae02 18 = .ok (.ireturn, 1) := by decide +kernel
theorem dJ0_checkIndex_df160_0 : decode cJ0_checkIndex_df160 0 = .ok (.iload_n 0, 1) := by decide +kernel
theorem dJ0_checkIndex_df160_1 : decode cJ0_checkIndex_df160 1 = .ok (.iload_n 1, 1) := by decide +kernel
theorem dJ0_checkIndex_df160_2 : decode cJ0_checkIndex_df160 2 = .ok (.getstatic 1053, 3) := by decide +kernel
theorem dJ0_checkIndex_df160_5 : decode cJ0_checkIndex_df160 5 = .ok (.invokestatic 1059, 3) := by decide +kernel
theorem dJ0_checkIndex_df160_8 : decode cJ0_checkIndex_df160 8 = .ok (.pop, 1) := by decide +kernel
theorem dJ0_checkIndex_df160_9 : decode cJ0_checkIndex_df160 9 = .ok (.return_, 1) := by decide +kernel
theorem dJ1_charAt_3b067_0 : decode cJ1_charAt_3b067 0 = .ok (.iload_n 1, 1) := by decide +kernel
theorem dJ1_charAt_3b067_1 : decode cJ1_charAt_3b067 1 = .ok (.aload_n 0, 1) := by decide +kernel
theorem dJ1_charAt_3b067_2 : decode cJ1_charAt_3b067 2 = .ok (.arraylength, 1) := by decide +kernel
theorem dJ1_charAt_3b067_3 : decode cJ1_charAt_3b067 3 = .ok (.invokestatic 9, 3) := by decide +kernel
theorem dJ1_charAt_3b067_6 : decode cJ1_charAt_3b067 6 = .ok (.aload_n 0, 1) := by decide +kernel
theorem dJ1_charAt_3b067_7 : decode cJ1_charAt_3b067 7 = .ok (.iload_n 1, 1) := by decide +kernel
theorem dJ1_charAt_3b067_8 : decode cJ1_charAt_3b067 8 = .ok (.baload, 1) := by decide +kernel
theorem dJ1_charAt_3b067_9 : decode cJ1_charAt_3b067 9 = .ok (.sipush 255, 3) := by decide +kernel
theorem dJ1_charAt_3b067_12 : decode cJ1_charAt_3b067 12 = .ok (.iand, 1) := by decide +kernel
theorem dJ1_charAt_3b067_13 : decode cJ1_charAt_3b067 13 = .ok (.i2c, 1) := by decide +kernel
theorem dJ1_charAt_3b067_14 : decode cJ1_charAt_3b067 14 = .ok (.ireturn, 1) := by decide +kernel
theorem dJ2_getChar_3b067_0 : decode cJ2_getChar_3b067 0 = .ok (.getstatic 44, 3) := by decide +kernel
theorem dJ2_getChar_3b067_3 : decode cJ2_getChar_3b067 3 = .ok (.ifCond .ne 25, 3) := by decide +kernel
theorem dJ2_getChar_3b067_6 : decode cJ2_getChar_3b067 6 = .ok (.iload_n 1, 1) := by decide +kernel
theorem dJ2_getChar_3b067_7 : decode cJ2_getChar_3b067 7 = .ok (.ifCond .lt 11, 3) := by decide +kernel
theorem dJ2_getChar_3b067_10 : decode cJ2_getChar_3b067 10 = .ok (.iload_n 1, 1) := by decide +kernel
theorem dJ2_getChar_3b067_11 : decode cJ2_getChar_3b067 11 = .ok (.aload_n 0, 1) := by decide +kernel
theorem dJ2_getChar_3b067_12 : decode cJ2_getChar_3b067 12 = .ok (.invokestatic 48, 3) := by decide +kernel
theorem dJ2_getChar_3b067_15 : decode cJ2_getChar_3b067 15 = .ok (.if_icmp .lt 13, 3) := by decide +kernel
theorem dJ2_getChar_3b067_18 : decode cJ2_getChar_3b067 18 = .ok (.new 52, 3) := by decide +kernel
theorem dJ2_getChar_3b067_21 : decode cJ2_getChar_3b067 21 = .ok (.dup, 1) := by decide +kernel
theorem dJ2_getChar_3b067_22 : decode cJ2_getChar_3b067 22 = .ok (.ldc 54, 2) := by decide +kernel
theorem dJ2_getChar_3b067_24 : decode cJ2_getChar_3b067 24 = .ok (.invokespecial 56, 3) := by decide +kernel
theorem dJ2_getChar_3b067_27 : decode cJ2_getChar_3b067 27 = .ok (.athrow, 1) := by decide +kernel
theorem dJ2_getChar_3b067_28 : decode cJ2_getChar_3b067 28 = .ok (.iload_n 1, 1) := by decide +kernel
theorem dJ2_getChar_3b067_29 : decode cJ2_getChar_3b067 29 = .ok (.iconst 1, 1) := by decide +kernel
theorem dJ2_getChar_3b067_30 : decode cJ2_getChar_3b067 30 = .ok (.ishl, 1) := by decide +kernel
theorem dJ2_getChar_3b067_31 : decode cJ2_getChar_3b067 31 = .ok (.istore_n 1, 1) := by decide +kernel
theorem dJ2_getChar_3b067_32 : decode cJ2_getChar_3b067 32 = .ok (.aload_n 0, 1) := by decide +kernel
theorem dJ2_getChar_3b067_33 : decode cJ2_getChar_3b067 33 = .ok (.iload_n 1, 1) := by decide +kernel
theorem dJ2_getChar_3b067_34 : decode cJ2_getChar_3b067 34 = .ok (.iinc 1 1, 3) := by decide +kernel
theorem dJ2_getChar_3b067_37 : decode cJ2_getChar_3b067 37 = .ok (.baload, 1) := by decide +kernel
theorem dJ2_getChar_3b067_38 : decode cJ2_getChar_3b067 38 = .ok (.sipush 255, 3) := by decide +kernel
theorem dJ2_getChar_3b067_41 : decode cJ2_getChar_3b067 41 = .ok (.iand, 1) := by decide +kernel
theorem dJ2_getChar_3b067_42 : decode cJ2_getChar_3b067 42 = .ok (.getstatic 59, 3) := by decide +kernel
theorem dJ2_getChar_3b067_45 : decode cJ2_getChar_3b067 45 = .ok (.ishl, 1) := by decide +kernel
theorem dJ2_getChar_3b067_46 : decode cJ2_getChar_3b067 46 = .ok (.aload_n 0, 1) := by decide +kernel
theorem dJ2_getChar_3b067_47 : decode cJ2_getChar_3b067 47 = .ok (.iload_n 1, 1) := by decide +kernel
theorem dJ2_getChar_3b067_48 : decode cJ2_getChar_3b067 48 = .ok (.baload, 1) := by decide +kernel
theorem dJ2_getChar_3b067_49 : decode cJ2_getChar_3b067 49 = .ok (.sipush 255, 3) := by decide +kernel
theorem dJ2_getChar_3b067_52 : decode cJ2_getChar_3b067 52 = .ok (.iand, 1) := by decide +kernel
theorem dJ2_getChar_3b067_53 : decode cJ2_getChar_3b067 53 = .ok (.getstatic 63, 3) := by decide +kernel
theorem dJ2_getChar_3b067_56 : decode cJ2_getChar_3b067 56 = .ok (.ishl, 1) := by decide +kernel
theorem dJ2_getChar_3b067_57 : decode cJ2_getChar_3b067 57 = .ok (.ior, 1) := by decide +kernel
theorem dJ2_getChar_3b067_58 : decode cJ2_getChar_3b067 58 = .ok (.i2c, 1) := by decide +kernel
theorem dJ2_getChar_3b067_59 : decode cJ2_getChar_3b067 59 = .ok (.ireturn, 1) := by decide +kernel
theorem dJ2_length_9d52b_0 : decode cJ2_length_9d52b 0 = .ok (.aload_n 0, 1) := by decide +kernel
theorem dJ2_length_9d52b_1 : decode cJ2_length_9d52b 1 = .ok (.arraylength, 1) := by decide +kernel
theorem dJ2_length_9d52b_2 : decode cJ2_length_9d52b 2 = .ok (.iconst 1, 1) := by decide +kernel
theorem dJ2_length_9d52b_3 : decode cJ2_length_9d52b 3 = .ok (.ishr, 1) := by decide +kernel
theorem dJ2_length_9d52b_4 : decode cJ2_length_9d52b 4 = .ok (.ireturn, 1) := by decide +kernel
theorem dJ2_charAt_3b067_0 : decode cJ2_charAt_3b067 0 = .ok (.iload_n 1, 1) := by decide +kernel
theorem dJ2_charAt_3b067_1 : decode cJ2_charAt_3b067 1 = .ok (.aload_n 0, 1) := by decide +kernel
theorem dJ2_charAt_3b067_2 : decode cJ2_charAt_3b067 2 = .ok (.invokestatic 67, 3) := by decide +kernel
theorem dJ2_charAt_3b067_5 : decode cJ2_charAt_3b067 5 = .ok (.aload_n 0, 1) := by decide +kernel
theorem dJ2_charAt_3b067_6 : decode cJ2_charAt_3b067 6 = .ok (.iload_n 1, 1) := by decide +kernel
theorem dJ2_charAt_3b067_7 : decode cJ2_charAt_3b067 7 = .ok (.invokestatic 71, 3) := by decide +kernel
theorem dJ2_charAt_3b067_10 : decode cJ2_charAt_3b067 10 = .ok (.ireturn, 1) := by decide +kernel
theorem dJ2_checkIndex_2214a_0 : decode cJ2_checkIndex_2214a 0 = .ok (.iload_n 0, 1) := by decide +kernel
theorem dJ2_checkIndex_2214a_1 : decode cJ2_checkIndex_2214a 1 = .ok (.aload_n 1, 1) := by decide +kernel
theorem dJ2_checkIndex_2214a_2 : decode cJ2_checkIndex_2214a 2 = .ok (.invokestatic 48, 3) := by decide +kernel
theorem dJ2_checkIndex_2214a_5 : decode cJ2_checkIndex_2214a 5 = .ok (.invokestatic 414, 3) := by decide +kernel
theorem dJ2_checkIndex_2214a_8 : decode cJ2_checkIndex_2214a 8 = .ok (.return_, 1) := by decide +kernel
theorem dJ3_checkIndex_8e157_0 : decode cJ3_checkIndex_8e157 0 = .ok (.iload_n 0, 1) := by decide +kernel
theorem dJ3_checkIndex_8e157_1 : decode cJ3_checkIndex_8e157 1 = .ok (.ifCond .lt 8, 3) := by decide +kernel
theorem dJ3_checkIndex_8e157_4 : decode cJ3_checkIndex_8e157 4 = .ok (.iload_n 0, 1) := by decide +kernel
theorem dJ3_checkIndex_8e157_5 : decode cJ3_checkIndex_8e157 5 = .ok (.iload_n 1, 1) := by decide +kernel
theorem dJ3_checkIndex_8e157_6 : decode cJ3_checkIndex_8e157 6 = .ok (.if_icmp .lt 10, 3) := by decide +kernel
theorem dJ3_checkIndex_8e157_9 : decode cJ3_checkIndex_8e157 9 = .ok (.aload_n 2, 1) := by decide +kernel
theorem dJ3_checkIndex_8e157_10 : decode cJ3_checkIndex_8e157 10 = .ok (.iload_n 0, 1) := by decide +kernel
theorem dJ3_checkIndex_8e157_11 : decode cJ3_checkIndex_8e157 11 = .ok (.iload_n 1, 1) := by decide +kernel
theorem dJ3_checkIndex_8e157_12 : decode cJ3_checkIndex_8e157 12 = .ok (.invokestatic 95, 3) := by decide +kernel
theorem dJ3_checkIndex_8e157_15 : decode cJ3_checkIndex_8e157 15 = .ok (.athrow, 1) := by decide +kernel
theorem dJ3_checkIndex_8e157_16 : decode cJ3_checkIndex_8e157 16 = .ok (.iload_n 0, 1) := by decide +kernel
theorem dJ3_checkIndex_8e157_17 : decode cJ3_checkIndex_8e157 17 = .ok (.ireturn, 1) := by decide +kernel
end
section
theorem dX11_init_0 : decode cX11_init 0 = .ok (.aload_n 0, 1) := by decide +kernel
theorem dX11_init_1 : decode cX11_init 1 = .ok (.invokespecial 1, 3) := by decide +kernel
theorem dX11_init_4 : decode cX11_init 4 = .ok (.aload_n 0, 1) := by decide +kernel
theorem dX11_init_5 : decode cX11_init 5 = .ok (.new 7, 3) := by decide +kernel
theorem dX11_init_8 : decode cX11_init 8 = .ok (.dup, 1) := by decide +kernel
theorem dX11_init_9 : decode cX11_init 9 = .ok (.invokespecial 9, 3) := by decide +kernel
theorem dX11_init_12 : decode cX11_init 12 = .ok (.putfield 10, 3) := by decide +kernel
theorem dX11_init_15 : decode cX11_init 15 = .ok (.aload_n 0, 1) := by decide +kernel
theorem dX11_init_16 : decode cX11_init 16 = .ok (.new 7, 3) := by decide +kernel
theorem dX11_init_19 : decode cX11_init 19 = .ok (.dup, 1) := by decide +kernel
theorem dX11_init_20 : decode cX11_init 20 = .ok (.invokespecial 9, 3) := by decide +kernel
theorem dX11_init_23 : decode cX11_init 23 = .ok (.putfield 16, 3) := by decide +kernel
theorem dX11_init_26 : decode cX11_init 26 = .ok (.aload_n 0, 1) := by decide +kernel
theorem dX11_init_27 : decode cX11_init 27 = .ok (.iconst 2, 1) := by decide +kernel
theorem dX11_init_28 : decode cX11_init 28 = .ok (.anewarray 7, 3) := by decide +kernel
theorem dX11_init_31 : decode cX11_init 31 = .ok (.putfield 19, 3) := by decide +kernel
theorem dX11_init_34 : decode cX11_init 34 = .ok (.iconst 0, 1) := by decide +kernel
theorem dX11_init_35 : decode cX11_init 35 = .ok (.istore_n 1, 1) := by decide +kernel
theorem dX11_init_36 : decode cX11_init 36 = .ok (.iload_n 1, 1) := by decide +kernel
theorem dX11_init_37 : decode cX11_init 37 = .ok (.iconst 2, 1) := by decide +kernel
theorem dX11_init_38 : decode cX11_init 38 = .ok (.if_icmp .ge 22, 3) := by decide +kernel
theorem dX11_init_41 : decode cX11_init 41 = .ok (.aload_n 0, 1) := by decide +kernel
theorem dX11_init_42 : decode cX11_init 42 = .ok (.getfield 19, 3) := by decide +kernel
theorem dX11_init_45 : decode cX11_init 45 = .ok (.iload_n 1, 1) := by decide +kernel
theorem dX11_init_46 : decode cX11_init 46 = .ok (.new 7, 3) := by decide +kernel
theorem dX11_init_49 : decode cX11_init 49 = .ok (.dup, 1) := by decide +kernel
theorem dX11_init_50 : decode cX11_init 50 = .ok (.invokespecial 9, 3) := by decide +kernel
theorem dX11_init_53 : decode cX11_init 53 = .ok (.aastore, 1) := by decide +kernel
theorem dX11_init_54 : decode cX11_init 54 = .ok (.iinc 1 1, 3) := by decide +kernel
theorem dX11_init_57 : decode cX11_init 57 = .ok (.goto (-21), 3) := by decide +kernel
theorem dX11_init_60 : decode cX11_init 60 = .ok (.aload_n 0, 1) := by decide +kernel
theorem dX11_init_61 : decode cX11_init 61 = .ok (.new 23, 3) := by decide +kernel
theorem dX11_init_64 : decode cX11_init 64 = .ok (.dup, 1) := by decide +kernel
theorem dX11_init_65 : decode cX11_init 65 = .ok (.invokespecial 25, 3) := by decide +kernel
theorem dX11_init_68 : decode cX11_init 68 = .ok (.putfield 26, 3) := by decide +kernel
theorem dX11_init_71 : decode cX11_init 71 = .ok (.aload_n 0, 1) := by decide +kernel
theorem dX11_init_72 : decode cX11_init 72 = .ok (.new 30, 3) := by decide +kernel
theorem dX11_init_75 : decode cX11_init 75 = .ok (.dup, 1) := by decide +kernel
theorem dX11_init_76 : decode cX11_init 76 = .ok (.invokespecial 32, 3) := by decide +kernel
theorem dX11_init_79 : decode cX11_init 79 = .ok (.putfield 33, 3) := by decide +kernel
theorem dX11_init_82 : decode cX11_init 82 = .ok (.aload_n 0, 1) := by decide +kernel
theorem dX11_init_83 : decode cX11_init 83 = .ok (.new 37, 3) := by decide +kernel
theorem dX11_init_86 : decode cX11_init 86 = .ok (.dup, 1) := by decide +kernel
theorem dX11_init_87 : decode cX11_init 87 = .ok (.invokespecial 39, 3) := by decide +kernel
theorem dX11_init_90 : decode cX11_init 90 = .ok (.putfield 40, 3) := by decide +kernel
theorem dX11_init_93 : decode cX11_init 93 = .ok (.aload_n 0, 1) := by decide +kernel
theorem dX11_init_94 : decode cX11_init 94 = .ok (.new 44, 3) := by decide +kernel
theorem dX11_init_97 : decode cX11_init 97 = .ok (.dup, 1) := by decide +kernel
theorem dX11_init_98 : decode cX11_init 98 = .ok (.invokespecial 46, 3) := by decide +kernel
theorem dX11_init_101 : decode cX11_init 101 = .ok (.putfield 47, 3) := by decide +kernel
theorem dX11_init_104 : decode cX11_init 104 = .ok (.aload_n 0, 1) := by decide +kernel
theorem dX11_init_105 : decode cX11_init 105 = .ok (.getstatic 51, 3) := by decide +kernel
theorem dX11_init_108 : decode cX11_init 108 = .ok (.arraylength, 1) := by decide +kernel
theorem dX11_init_109 : decode cX11_init 109 = .ok (.newarray .int, 2) := by decide +kernel
theorem dX11_init_111 : decode cX11_init 111 = .ok (.putfield 55, 3) := by decide +kernel
theorem dX11_init_114 : decode cX11_init 114 = .ok (.aload_n 0, 1) := by decide +kernel
theorem dX11_init_115 : decode cX11_init 115 = .ok (.bipush 6, 2) := by decide +kernel
theorem dX11_init_117 : decode cX11_init 117 = .ok (.newarray .int, 2) := by decide +kernel
theorem dX11_init_119 : decode cX11_init 119 = .ok (.putfield 58, 3) := by decide +kernel
theorem dX11_init_122 : decode cX11_init 122 = .ok (.aload_n 0, 1) := by decide +kernel
theorem dX11_init_123 : decode cX11_init 123 = .ok (.iconst 3, 1) := by decide +kernel
theorem dX11_init_124 : decode cX11_init 124 = .ok (.newarray .int, 2) := by decide +kernel
theorem dX11_init_126 : decode cX11_init 126 = .ok (.putfield 61, 3) := by decide +kernel
theorem dX11_init_129 : decode cX11_init 129 = .ok (.return_, 1) := by decide +kernel
theorem dX11_ship_0 : decode cX11_ship 0 = .ok (.aload_n 0, 1) := by decide +kernel
theorem dX11_ship_1 : decode cX11_ship 1 = .ok (.getfield 55, 3) := by decide +kernel
theorem dX11_ship_4 : decode cX11_ship 4 = .ok (.iconst 0, 1) := by decide +kernel
theorem dX11_ship_5 : decode cX11_ship 5 = .ok (.iload_n 1, 1) := by decide +kernel
theorem dX11_ship_6 : decode cX11_ship 6 = .ok (.iastore, 1) := by decide +kernel
theorem dX11_ship_7 : decode cX11_ship 7 = .ok (.aload_n 0, 1) := by decide +kernel
theorem dX11_ship_8 : decode cX11_ship 8 = .ok (.getfield 55, 3) := by decide +kernel
theorem dX11_ship_11 : decode cX11_ship 11 = .ok (.iconst 1, 1) := by decide +kernel
theorem dX11_ship_12 : decode cX11_ship 12 = .ok (.iload_n 2, 1) := by decide +kernel
theorem dX11_ship_13 : decode cX11_ship 13 = .ok (.iastore, 1) := by decide +kernel
theorem dX11_ship_14 : decode cX11_ship 14 = .ok (.aload_n 0, 1) := by decide +kernel
theorem dX11_ship_15 : decode cX11_ship 15 = .ok (.getfield 55, 3) := by decide +kernel
theorem dX11_ship_18 : decode cX11_ship 18 = .ok (.getstatic 64, 3) := by decide +kernel
theorem dX11_ship_21 : decode cX11_ship 21 = .ok (.getstatic 51, 3) := by decide +kernel
theorem dX11_ship_24 : decode cX11_ship 24 = .ok (.invokestatic 67, 3) := by decide +kernel
theorem dX11_ship_27 : decode cX11_ship 27 = .ok (.ifCond .ne 10, 3) := by decide +kernel
theorem dX11_ship_30 : decode cX11_ship 30 = .ok (.aload_n 0, 1) := by decide +kernel
theorem dX11_ship_31 : decode cX11_ship 31 = .ok (.bipush (-2), 2) := by decide +kernel
theorem dX11_ship_33 : decode cX11_ship 33 = .ok (.invokevirtual 71, 3) := by decide +kernel
theorem dX11_ship_36 : decode cX11_ship 36 = .ok (.ireturn, 1) := by decide +kernel
theorem dX11_ship_37 : decode cX11_ship 37 = .ok (.aload_n 0, 1) := by decide +kernel
theorem dX11_ship_38 : decode cX11_ship 38 = .ok (.getfield 10, 3) := by decide +kernel
theorem dX11_ship_41 : decode cX11_ship 41 = .ok (.getfield 75, 3) := by decide +kernel
theorem dX11_ship_44 : decode cX11_ship 44 = .ok (.istore_n 3, 1) := by decide +kernel
theorem dX11_ship_45 : decode cX11_ship 45 = .ok (.aload_n 0, 1) := by decide +kernel
theorem dX11_ship_46 : decode cX11_ship 46 = .ok (.getfield 10, 3) := by decide +kernel
theorem dX11_ship_49 : decode cX11_ship 49 = .ok (.iload_n 1, 1) := by decide +kernel
theorem dX11_ship_50 : decode cX11_ship 50 = .ok (.iload_n 2, 1) := by decide +kernel
theorem dX11_ship_51 : decode cX11_ship 51 = .ok (.invokevirtual 79, 3) := by decide +kernel
theorem dX11_ship_54 : decode cX11_ship 54 = .ok (.iload_n 3, 1) := by decide +kernel
theorem dX11_ship_55 : decode cX11_ship 55 = .ok (.ireturn, 1) := by decide +kernel
theorem dX11_goods_0 : decode cX11_goods 0 = .ok (.aload_n 0, 1) := by decide +kernel
theorem dX11_goods_1 : decode cX11_goods 1 = .ok (.getfield 58, 3) := by decide +kernel
theorem dX11_goods_4 : decode cX11_goods 4 = .ok (.iconst 0, 1) := by decide +kernel
theorem dX11_goods_5 : decode cX11_goods 5 = .ok (.iload_n 1, 1) := by decide +kernel
theorem dX11_goods_6 : decode cX11_goods 6 = .ok (.iastore, 1) := by decide +kernel
theorem dX11_goods_7 : decode cX11_goods 7 = .ok (.aload_n 0, 1) := by decide +kernel
theorem dX11_goods_8 : decode cX11_goods 8 = .ok (.getfield 58, 3) := by decide +kernel
theorem dX11_goods_11 : decode cX11_goods 11 = .ok (.iconst 1, 1) := by decide +kernel
theorem dX11_goods_12 : decode cX11_goods 12 = .ok (.iload_n 2, 1) := by decide +kernel
theorem dX11_goods_13 : decode cX11_goods 13 = .ok (.iastore, 1) := by decide +kernel
theorem dX11_goods_14 : decode cX11_goods 14 = .ok (.aload_n 0, 1) := by decide +kernel
theorem dX11_goods_15 : decode cX11_goods 15 = .ok (.getfield 58, 3) := by decide +kernel
theorem dX11_goods_18 : decode cX11_goods 18 = .ok (.iconst 2, 1) := by decide +kernel
theorem dX11_goods_19 : decode cX11_goods 19 = .ok (.iload_n 3, 1) := by decide +kernel
theorem dX11_goods_20 : decode cX11_goods 20 = .ok (.iastore, 1) := by decide +kernel
theorem dX11_goods_21 : decode cX11_goods 21 = .ok (.aload_n 0, 1) := by decide +kernel
theorem dX11_goods_22 : decode cX11_goods 22 = .ok (.getfield 58, 3) := by decide +kernel
theorem dX11_goods_25 : decode cX11_goods 25 = .ok (.iconst 3, 1) := by decide +kernel
theorem dX11_goods_26 : decode cX11_goods 26 = .ok (.iload 4, 2) := by decide +kernel
theorem dX11_goods_28 : decode cX11_goods 28 = .ok (.iastore, 1) := by decide +kernel
theorem dX11_goods_29 : decode cX11_goods 29 = .ok (.aload_n 0, 1) := by decide +kernel
theorem dX11_goods_30 : decode cX11_goods 30 = .ok (.getfield 58, 3) := by decide +kernel
theorem dX11_goods_33 : decode cX11_goods 33 = .ok (.iconst 4, 1) := by decide +kernel
theorem dX11_goods_34 : decode cX11_goods 34 = .ok (.iload 5, 2) := by decide +kernel
theorem dX11_goods_36 : decode cX11_goods 36 = .ok (.iastore, 1) := by decide +kernel
theorem dX11_goods_37 : decode cX11_goods 37 = .ok (.aload_n 0, 1) := by decide +kernel
theorem dX11_goods_38 : decode cX11_goods 38 = .ok (.getfield 58, 3) := by decide +kernel
theorem dX11_goods_41 : decode cX11_goods 41 = .ok (.iconst 5, 1) := by decide +kernel
theorem dX11_goods_42 : decode cX11_goods 42 = .ok (.iload 6, 2) := by decide +kernel
theorem dX11_goods_44 : decode cX11_goods 44 = .ok (.iastore, 1) := by decide +kernel
theorem dX11_goods_45 : decode cX11_goods 45 = .ok (.aload_n 0, 1) := by decide +kernel
theorem dX11_goods_46 : decode cX11_goods 46 = .ok (.getfield 58, 3) := by decide +kernel
theorem dX11_goods_49 : decode cX11_goods 49 = .ok (.getstatic 83, 3) := by decide +kernel
theorem dX11_goods_52 : decode cX11_goods 52 = .ok (.getstatic 86, 3) := by decide +kernel
theorem dX11_goods_55 : decode cX11_goods 55 = .ok (.invokestatic 67, 3) := by decide +kernel
theorem dX11_goods_58 : decode cX11_goods 58 = .ok (.ifCond .ne 10, 3) := by decide +kernel
theorem dX11_goods_61 : decode cX11_goods 61 = .ok (.aload_n 0, 1) := by decide +kernel
theorem dX11_goods_62 : decode cX11_goods 62 = .ok (.bipush (-2), 2) := by decide +kernel
theorem dX11_goods_64 : decode cX11_goods 64 = .ok (.invokevirtual 71, 3) := by decide +kernel
theorem dX11_goods_67 : decode cX11_goods 67 = .ok (.ireturn, 1) := by decide +kernel
theorem dX11_goods_68 : decode cX11_goods 68 = .ok (.aload_n 0, 1) := by decide +kernel
theorem dX11_goods_69 : decode cX11_goods 69 = .ok (.getfield 10, 3) := by decide +kernel
theorem dX11_goods_72 : decode cX11_goods 72 = .ok (.aload_n 0, 1) := by decide +kernel
theorem dX11_goods_73 : decode cX11_goods 73 = .ok (.getfield 58, 3) := by decide +kernel
theorem dX11_goods_76 : decode cX11_goods 76 = .ok (.invokevirtual 89, 3) := by decide +kernel
theorem dX11_goods_79 : decode cX11_goods 79 = .ok (.istore 7, 2) := by decide +kernel
theorem dX11_goods_81 : decode cX11_goods 81 = .ok (.iload 7, 2) := by decide +kernel
theorem dX11_goods_83 : decode cX11_goods 83 = .ok (.iconst (-1), 1) := by decide +kernel
theorem dX11_goods_84 : decode cX11_goods 84 = .ok (.if_icmp .ne 12, 3) := by decide +kernel
theorem dX11_goods_87 : decode cX11_goods 87 = .ok (.aload_n 0, 1) := by decide +kernel
theorem dX11_goods_88 : decode cX11_goods 88 = .ok (.bipush (-4), 2) := by decide +kernel
theorem dX11_goods_90 : decode cX11_goods 90 = .ok (.invokevirtual 71, 3) := by decide +kernel
theorem dX11_goods_93 : decode cX11_goods 93 = .ok (.goto 5, 3) := by decide +kernel
theorem dX11_goods_96 : decode cX11_goods 96 = .ok (.iload 7, 2) := by decide +kernel
theorem dX11_goods_98 : decode cX11_goods 98 = .ok (.ireturn, 1) := by decide +kernel
theorem dX11_tells_0 : decode cX11_tells 0 = .ok (.aload_n 0, 1) := by decide +kernel
theorem dX11_tells_1 : decode cX11_tells 1 = .ok (.getfield 10, 3) := by decide +kernel
theorem dX11_tells_4 : decode cX11_tells 4 = .ok (.iload_n 1, 1) := by decide +kernel
theorem dX11_tells_5 : decode cX11_tells 5 = .ok (.invokevirtual 93, 3) := by decide +kernel
theorem dX11_tells_8 : decode cX11_tells 8 = .ok (.ifCond .eq 13, 3) := by decide +kernel
theorem dX11_tells_11 : decode cX11_tells 11 = .ok (.iload_n 2, 1) := by decide +kernel
theorem dX11_tells_12 : decode cX11_tells 12 = .ok (.iconst 0, 1) := by decide +kernel
theorem dX11_tells_13 : decode cX11_tells 13 = .ok (.bipush 60, 2) := by decide +kernel
theorem dX11_tells_15 : decode cX11_tells 15 = .ok (.invokestatic 97, 3) := by decide +kernel
theorem dX11_tells_18 : decode cX11_tells 18 = .ok (.ifCond .ne 10, 3) := by decide +kernel
theorem dX11_tells_21 : decode cX11_tells 21 = .ok (.aload_n 0, 1) := by decide +kernel
theorem dX11_tells_22 : decode cX11_tells 22 = .ok (.bipush (-2), 2) := by decide +kernel
theorem dX11_tells_24 : decode cX11_tells 24 = .ok (.invokevirtual 71, 3) := by decide +kernel
theorem dX11_tells_27 : decode cX11_tells 27 = .ok (.ireturn, 1) := by decide +kernel
theorem dX11_tells_28 : decode cX11_tells 28 = .ok (.aload_n 0, 1) := by decide +kernel
theorem dX11_tells_29 : decode cX11_tells 29 = .ok (.getfield 10, 3) := by decide +kernel
theorem dX11_tells_32 : decode cX11_tells 32 = .ok (.iload_n 1, 1) := by decide +kernel
theorem dX11_tells_33 : decode cX11_tells 33 = .ok (.iconst 5, 1) := by decide +kernel
theorem dX11_tells_34 : decode cX11_tells 34 = .ok (.invokevirtual 101, 3) := by decide +kernel
theorem dX11_tells_37 : decode cX11_tells 37 = .ok (.istore_n 3, 1) := by decide +kernel
theorem dX11_tells_38 : decode cX11_tells 38 = .ok (.aload_n 0, 1) := by decide +kernel
theorem dX11_tells_39 : decode cX11_tells 39 = .ok (.getfield 10, 3) := by decide +kernel
theorem dX11_tells_42 : decode cX11_tells 42 = .ok (.iload_n 1, 1) := by decide +kernel
theorem dX11_tells_43 : decode cX11_tells 43 = .ok (.iload_n 2, 1) := by decide +kernel
theorem dX11_tells_44 : decode cX11_tells 44 = .ok (.invokevirtual 105, 3) := by decide +kernel
theorem dX11_tells_47 : decode cX11_tells 47 = .ok (.iload_n 3, 1) := by decide +kernel
theorem dX11_tells_48 : decode cX11_tells 48 = .ok (.ireturn, 1) := by decide +kernel
theorem dX11_type_0 : decode cX11_type 0 = .ok (.iload_n 1, 1) := by decide +kernel
theorem dX11_type_1 : decode cX11_type 1 = .ok (.iconst 0, 1) := by decide +kernel
theorem dX11_type_2 : decode cX11_type 2 = .ok (.bipush 127, 2) := by decide +kernel
theorem dX11_type_4 : decode cX11_type 4 = .ok (.invokestatic 97, 3) := by decide +kernel
theorem dX11_type_7 : decode cX11_type 7 = .ok (.ifCond .ne 10, 3) := by decide +kernel
theorem dX11_type_10 : decode cX11_type 10 = .ok (.aload_n 0, 1) := by decide +kernel
theorem dX11_type_11 : decode cX11_type 11 = .ok (.bipush (-2), 2) := by decide +kernel
theorem dX11_type_13 : decode cX11_type 13 = .ok (.invokevirtual 71, 3) := by decide +kernel
theorem dX11_type_16 : decode cX11_type 16 = .ok (.ireturn, 1) := by decide +kernel
theorem dX11_type_17 : decode cX11_type 17 = .ok (.aload_n 0, 1) := by decide +kernel
theorem dX11_type_18 : decode cX11_type 18 = .ok (.getfield 26, 3) := by decide +kernel
theorem dX11_type_21 : decode cX11_type 21 = .ok (.iload_n 1, 1) := by decide +kernel
theorem dX11_type_22 : decode cX11_type 22 = .ok (.invokevirtual 108, 3) := by decide +kernel
theorem dX11_type_25 : decode cX11_type 25 = .ok (.ifCond .eq 13, 3) := by decide +kernel
theorem dX11_type_28 : decode cX11_type 28 = .ok (.aload_n 0, 1) := by decide +kernel
theorem dX11_type_29 : decode cX11_type 29 = .ok (.getfield 26, 3) := by decide +kernel
theorem dX11_type_32 : decode cX11_type 32 = .ok (.getfield 111, 3) := by decide +kernel
theorem dX11_type_35 : decode cX11_type 35 = .ok (.goto 9, 3) := by decide +kernel
theorem dX11_type_38 : decode cX11_type 38 = .ok (.aload_n 0, 1) := by decide +kernel
theorem dX11_type_39 : decode cX11_type 39 = .ok (.bipush (-4), 2) := by decide +kernel
theorem dX11_type_41 : decode cX11_type 41 = .ok (.invokevirtual 71, 3) := by decide +kernel
theorem dX11_type_44 : decode cX11_type 44 = .ok (.ireturn, 1) := by decide +kernel
theorem dX11_clear_0 : decode cX11_clear 0 = .ok (.aload_n 0, 1) := by decide +kernel
theorem dX11_clear_1 : decode cX11_clear 1 = .ok (.getfield 26, 3) := by decide +kernel
theorem dX11_clear_4 : decode cX11_clear 4 = .ok (.getfield 111, 3) := by decide +kernel
theorem dX11_clear_7 : decode cX11_clear 7 = .ok (.istore_n 1, 1) := by decide +kernel
theorem dX11_clear_8 : decode cX11_clear 8 = .ok (.aload_n 0, 1) := by decide +kernel
theorem dX11_clear_9 : decode cX11_clear 9 = .ok (.getfield 26, 3) := by decide +kernel
theorem dX11_clear_12 : decode cX11_clear 12 = .ok (.iconst 0, 1) := by decide +kernel
theorem dX11_clear_13 : decode cX11_clear 13 = .ok (.putfield 111, 3) := by decide +kernel
theorem dX11_clear_16 : decode cX11_clear 16 = .ok (.iload_n 1, 1) := by decide +kernel
theorem dX11_clear_17 : decode cX11_clear 17 = .ok (.ireturn, 1) := by decide +kernel
theorem dX11_read_0 : decode cX11_read 0 = .ok (.aload_n 0, 1) := by decide +kernel
theorem dX11_read_1 : decode cX11_read 1 = .ok (.getfield 26, 3) := by decide +kernel
theorem dX11_read_4 : decode cX11_read 4 = .ok (.aload_n 0, 1) := by decide +kernel
theorem dX11_read_5 : decode cX11_read 5 = .ok (.getfield 16, 3) := by decide +kernel
theorem dX11_read_8 : decode cX11_read 8 = .ok (.invokevirtual 114, 3) := by decide +kernel
theorem dX11_read_11 : decode cX11_read 11 = .ok (.istore_n 1, 1) := by decide +kernel
theorem dX11_read_12 : decode cX11_read 12 = .ok (.iload_n 1, 1) := by decide +kernel
theorem dX11_read_13 : decode cX11_read 13 = .ok (.ifCond .lt 22, 3) := by decide +kernel
theorem dX11_read_16 : decode cX11_read 16 = .ok (.aload_n 0, 1) := by decide +kernel
theorem dX11_read_17 : decode cX11_read 17 = .ok (.getfield 16, 3) := by decide +kernel
theorem dX11_read_20 : decode cX11_read 20 = .ok (.iconst 0, 1) := by decide +kernel
theorem dX11_read_21 : decode cX11_read 21 = .ok (.putfield 118, 3) := by decide +kernel
theorem dX11_read_24 : decode cX11_read 24 = .ok (.aload_n 0, 1) := by decide +kernel
theorem dX11_read_25 : decode cX11_read 25 = .ok (.getfield 10, 3) := by decide +kernel
theorem dX11_read_28 : decode cX11_read 28 = .ok (.aload_n 0, 1) := by decide +kernel
theorem dX11_read_29 : decode cX11_read 29 = .ok (.getfield 16, 3) := by decide +kernel
theorem dX11_read_32 : decode cX11_read 32 = .ok (.invokevirtual 121, 3) := by decide +kernel
theorem dX11_read_35 : decode cX11_read 35 = .ok (.iload_n 1, 1) := by decide +kernel
theorem dX11_read_36 : decode cX11_read 36 = .ok (.ireturn, 1) := by decide +kernel
theorem dX11_over_0 : decode cX11_over 0 = .ok (.aload_n 0, 1) := by decide +kernel
theorem dX11_over_1 : decode cX11_over 1 = .ok (.getfield 10, 3) := by decide +kernel
theorem dX11_over_4 : decode cX11_over 4 = .ok (.iload_n 1, 1) := by decide +kernel
theorem dX11_over_5 : decode cX11_over 5 = .ok (.invokevirtual 93, 3) := by decide +kernel
theorem dX11_over_8 : decode cX11_over 8 = .ok (.ifCond .ne 10, 3) := by decide +kernel
theorem dX11_over_11 : decode cX11_over 11 = .ok (.aload_n 0, 1) := by decide +kernel
theorem dX11_over_12 : decode cX11_over 12 = .ok (.bipush (-2), 2) := by decide +kernel
theorem dX11_over_14 : decode cX11_over 14 = .ok (.invokevirtual 71, 3) := by decide +kernel
theorem dX11_over_17 : decode cX11_over 17 = .ok (.ireturn, 1) := by decide +kernel
theorem dX11_over_18 : decode cX11_over 18 = .ok (.aload_n 0, 1) := by decide +kernel
theorem dX11_over_19 : decode cX11_over 19 = .ok (.getfield 10, 3) := by decide +kernel
theorem dX11_over_22 : decode cX11_over 22 = .ok (.iload_n 1, 1) := by decide +kernel
theorem dX11_over_23 : decode cX11_over 23 = .ok (.aload_n 0, 1) := by decide +kernel
theorem dX11_over_24 : decode cX11_over 24 = .ok (.getfield 10, 3) := by decide +kernel
theorem dX11_over_27 : decode cX11_over 27 = .ok (.getfield 125, 3) := by decide +kernel
theorem dX11_over_30 : decode cX11_over 30 = .ok (.invokevirtual 128, 3) := by decide +kernel
theorem dX11_over_33 : decode cX11_over 33 = .ok (.ifCond .ne 10, 3) := by decide +kernel
theorem dX11_over_36 : decode cX11_over 36 = .ok (.aload_n 0, 1) := by decide +kernel
theorem dX11_over_37 : decode cX11_over 37 = .ok (.bipush (-3), 2) := by decide +kernel
theorem dX11_over_39 : decode cX11_over 39 = .ok (.invokevirtual 71, 3) := by decide +kernel
theorem dX11_over_42 : decode cX11_over 42 = .ok (.ireturn, 1) := by decide +kernel
theorem dX11_over_43 : decode cX11_over 43 = .ok (.aload_n 0, 1) := by decide +kernel
theorem dX11_over_44 : decode cX11_over 44 = .ok (.getfield 10, 3) := by decide +kernel
theorem dX11_over_47 : decode cX11_over 47 = .ok (.iload_n 1, 1) := by decide +kernel
theorem dX11_over_48 : decode cX11_over 48 = .ok (.invokevirtual 132, 3) := by decide +kernel
theorem dX11_over_51 : decode cX11_over 51 = .ok (.aload_n 0, 1) := by decide +kernel
theorem dX11_over_52 : decode cX11_over 52 = .ok (.getfield 33, 3) := by decide +kernel
theorem dX11_over_55 : decode cX11_over 55 = .ok (.aload_n 0, 1) := by decide +kernel
theorem dX11_over_56 : decode cX11_over 56 = .ok (.getfield 10, 3) := by decide +kernel
theorem dX11_over_59 : decode cX11_over 59 = .ok (.iload_n 1, 1) := by decide +kernel
theorem dX11_over_60 : decode cX11_over 60 = .ok (.invokevirtual 136, 3) := by decide +kernel
theorem dX11_over_63 : decode cX11_over 63 = .ok (.ireturn, 1) := by decide +kernel
theorem dX11_undo_0 : decode cX11_undo 0 = .ok (.aload_n 0, 1) := by decide +kernel
theorem dX11_undo_1 : decode cX11_undo 1 = .ok (.getfield 10, 3) := by decide +kernel
theorem dX11_undo_4 : decode cX11_undo 4 = .ok (.invokevirtual 140, 3) := by decide +kernel
theorem dX11_undo_7 : decode cX11_undo 7 = .ok (.ifCond .eq 16, 3) := by decide +kernel
theorem dX11_undo_10 : decode cX11_undo 10 = .ok (.aload_n 0, 1) := by decide +kernel
theorem dX11_undo_11 : decode cX11_undo 11 = .ok (.getfield 10, 3) := by decide +kernel
theorem dX11_undo_14 : decode cX11_undo 14 = .ok (.getfield 125, 3) := by decide +kernel
theorem dX11_undo_17 : decode cX11_undo 17 = .ok (.invokestatic 144, 3) := by decide +kernel
theorem dX11_undo_20 : decode cX11_undo 20 = .ok (.goto 9, 3) := by decide +kernel
theorem dX11_undo_23 : decode cX11_undo 23 = .ok (.aload_n 0, 1) := by decide +kernel
theorem dX11_undo_24 : decode cX11_undo 24 = .ok (.bipush (-3), 2) := by decide +kernel
theorem dX11_undo_26 : decode cX11_undo 26 = .ok (.invokevirtual 71, 3) := by decide +kernel
theorem dX11_undo_29 : decode cX11_undo 29 = .ok (.ireturn, 1) := by decide +kernel
theorem dX11_of_0 : decode cX11_of 0 = .ok (.aload_n 0, 1) := by decide +kernel
theorem dX11_of_1 : decode cX11_of 1 = .ok (.getfield 10, 3) := by decide +kernel
theorem dX11_of_4 : decode cX11_of 4 = .ok (.iload_n 1, 1) := by decide +kernel
theorem dX11_of_5 : decode cX11_of 5 = .ok (.invokevirtual 93, 3) := by decide +kernel
theorem dX11_of_8 : decode cX11_of 8 = .ok (.ifCond .eq 13, 3) := by decide +kernel
theorem dX11_of_11 : decode cX11_of 11 = .ok (.iload_n 2, 1) := by decide +kernel
theorem dX11_of_12 : decode cX11_of 12 = .ok (.iconst 0, 1) := by decide +kernel
theorem dX11_of_13 : decode cX11_of 13 = .ok (.bipush 7, 2) := by decide +kernel
theorem dX11_of_15 : decode cX11_of 15 = .ok (.invokestatic 97, 3) := by decide +kernel
theorem dX11_of_18 : decode cX11_of 18 = .ok (.ifCond .ne 10, 3) := by decide +kernel
theorem dX11_of_21 : decode cX11_of 21 = .ok (.aload_n 0, 1) := by decide +kernel
theorem dX11_of_22 : decode cX11_of 22 = .ok (.bipush (-2), 2) := by decide +kernel
theorem dX11_of_24 : decode cX11_of 24 = .ok (.invokevirtual 71, 3) := by decide +kernel
theorem dX11_of_27 : decode cX11_of 27 = .ok (.ireturn, 1) := by decide +kernel
theorem dX11_of_28 : decode cX11_of 28 = .ok (.iload_n 2, 1) := by decide +kernel
theorem dX11_of_29 : decode cX11_of 29 = .ok (.bipush 6, 2) := by decide +kernel
theorem dX11_of_31 : decode cX11_of 31 = .ok (.if_icmp .ne 23, 3) := by decide +kernel
theorem dX11_of_34 : decode cX11_of 34 = .ok (.aload_n 0, 1) := by decide +kernel
theorem dX11_of_35 : decode cX11_of 35 = .ok (.getfield 10, 3) := by decide +kernel
theorem dX11_of_38 : decode cX11_of 38 = .ok (.getfield 125, 3) := by decide +kernel
theorem dX11_of_41 : decode cX11_of 41 = .ok (.iload_n 1, 1) := by decide +kernel
theorem dX11_of_42 : decode cX11_of 42 = .ok (.invokestatic 149, 3) := by decide +kernel
theorem dX11_of_45 : decode cX11_of 45 = .ok (.ifCond .eq 7, 3) := by decide +kernel
theorem dX11_of_48 : decode cX11_of 48 = .ok (.iconst 1, 1) := by decide +kernel
theorem dX11_of_49 : decode cX11_of 49 = .ok (.goto 4, 3) := by decide +kernel
theorem dX11_of_52 : decode cX11_of 52 = .ok (.iconst 0, 1) := by decide +kernel
theorem dX11_of_53 : decode cX11_of 53 = .ok (.ireturn, 1) := by decide +kernel
theorem dX11_of_54 : decode cX11_of 54 = .ok (.iload_n 2, 1) := by decide +kernel
theorem dX11_of_55 : decode cX11_of 55 = .ok (.bipush 7, 2) := by decide +kernel
theorem dX11_of_57 : decode cX11_of 57 = .ok (.if_icmp .ne 27, 3) := by decide +kernel
theorem dX11_of_60 : decode cX11_of 60 = .ok (.aload_n 0, 1) := by decide +kernel
theorem dX11_of_61 : decode cX11_of 61 = .ok (.getfield 10, 3) := by decide +kernel
theorem dX11_of_64 : decode cX11_of 64 = .ok (.iload_n 1, 1) := by decide +kernel
theorem dX11_of_65 : decode cX11_of 65 = .ok (.aload_n 0, 1) := by decide +kernel
theorem dX11_of_66 : decode cX11_of 66 = .ok (.getfield 10, 3) := by decide +kernel
theorem dX11_of_69 : decode cX11_of 69 = .ok (.getfield 125, 3) := by decide +kernel
theorem dX11_of_72 : decode cX11_of 72 = .ok (.invokevirtual 128, 3) := by decide +kernel
theorem dX11_of_75 : decode cX11_of 75 = .ok (.ifCond .eq 7, 3) := by decide +kernel
theorem dX11_of_78 : decode cX11_of 78 = .ok (.iconst 1, 1) := by decide +kernel
theorem dX11_of_79 : decode cX11_of 79 = .ok (.goto 4, 3) := by decide +kernel
theorem dX11_of_82 : decode cX11_of 82 = .ok (.iconst 0, 1) := by decide +kernel
theorem dX11_of_83 : decode cX11_of 83 = .ok (.ireturn, 1) := by decide +kernel
theorem dX11_of_84 : decode cX11_of 84 = .ok (.aload_n 0, 1) := by decide +kernel
theorem dX11_of_85 : decode cX11_of 85 = .ok (.getfield 10, 3) := by decide +kernel
theorem dX11_of_88 : decode cX11_of 88 = .ok (.iload_n 1, 1) := by decide +kernel
theorem dX11_of_89 : decode cX11_of 89 = .ok (.iload_n 2, 1) := by decide +kernel
theorem dX11_of_90 : decode cX11_of 90 = .ok (.invokevirtual 101, 3) := by decide +kernel
theorem dX11_of_93 : decode cX11_of 93 = .ok (.ireturn, 1) := by decide +kernel
theorem dX11_lives_0 : decode cX11_lives 0 = .ok (.iload_n 1, 1) := by decide +kernel
theorem dX11_lives_1 : decode cX11_lives 1 = .ok (.invokestatic 152, 3) := by decide +kernel
theorem dX11_lives_4 : decode cX11_lives 4 = .ok (.ifCond .ne 10, 3) := by decide +kernel
theorem dX11_lives_7 : decode cX11_lives 7 = .ok (.aload_n 0, 1) := by decide +kernel
theorem dX11_lives_8 : decode cX11_lives 8 = .ok (.bipush (-2), 2) := by decide +kernel
theorem dX11_lives_10 : decode cX11_lives 10 = .ok (.invokevirtual 71, 3) := by decide +kernel
theorem dX11_lives_13 : decode cX11_lives 13 = .ok (.ireturn, 1) := by decide +kernel
theorem dX11_lives_14 : decode cX11_lives 14 = .ok (.aload_n 0, 1) := by decide +kernel
theorem dX11_lives_15 : decode cX11_lives 15 = .ok (.getfield 10, 3) := by decide +kernel
theorem dX11_lives_18 : decode cX11_lives 18 = .ok (.iload_n 1, 1) := by decide +kernel
theorem dX11_lives_19 : decode cX11_lives 19 = .ok (.aload_n 0, 1) := by decide +kernel
theorem dX11_lives_20 : decode cX11_lives 20 = .ok (.getfield 10, 3) := by decide +kernel
theorem dX11_lives_23 : decode cX11_lives 23 = .ok (.getfield 125, 3) := by decide +kernel
theorem dX11_lives_26 : decode cX11_lives 26 = .ok (.invokevirtual 155, 3) := by decide +kernel
theorem dX11_lives_29 : decode cX11_lives 29 = .ok (.ifCond .eq 7, 3) := by decide +kernel
theorem dX11_lives_32 : decode cX11_lives 32 = .ok (.iconst 1, 1) := by decide +kernel
theorem dX11_lives_33 : decode cX11_lives 33 = .ok (.goto 4, 3) := by decide +kernel
theorem dX11_lives_36 : decode cX11_lives 36 = .ok (.iconst 0, 1) := by decide +kernel
theorem dX11_lives_37 : decode cX11_lives 37 = .ok (.ireturn, 1) := by decide +kernel
theorem dX11_now_0 : decode cX11_now 0 = .ok (.iload_n 1, 1) := by decide +kernel
theorem dX11_now_1 : decode cX11_now 1 = .ok (.iconst 0, 1) := by decide +kernel
theorem dX11_now_2 : decode cX11_now 2 = .ok (.iconst 3, 1) := by decide +kernel
theorem dX11_now_3 : decode cX11_now 3 = .ok (.invokestatic 97, 3) := by decide +kernel
theorem dX11_now_6 : decode cX11_now 6 = .ok (.ifCond .ne 10, 3) := by decide +kernel
theorem dX11_now_9 : decode cX11_now 9 = .ok (.aload_n 0, 1) := by decide +kernel
theorem dX11_now_10 : decode cX11_now 10 = .ok (.bipush (-2), 2) := by decide +kernel
theorem dX11_now_12 : decode cX11_now 12 = .ok (.invokevirtual 71, 3) := by decide +kernel
theorem dX11_now_15 : decode cX11_now 15 = .ok (.ireturn, 1) := by decide +kernel
theorem dX11_now_16 : decode cX11_now 16 = .ok (.iload_n 1, 1) := by decide +kernel
theorem dX11_now_17 : decode cX11_now 17 = .ok (.iconst 2, 1) := by decide +kernel
theorem dX11_now_18 : decode cX11_now 18 = .ok (.if_icmp .lt 28, 3) := by decide +kernel
theorem dX11_now_21 : decode cX11_now 21 = .ok (.aload_n 0, 1) := by decide +kernel
theorem dX11_now_22 : decode cX11_now 22 = .ok (.getfield 10, 3) := by decide +kernel
theorem dX11_now_25 : decode cX11_now 25 = .ok (.aload_n 0, 1) := by decide +kernel
theorem dX11_now_26 : decode cX11_now 26 = .ok (.getfield 10, 3) := by decide +kernel
theorem dX11_now_29 : decode cX11_now 29 = .ok (.getfield 125, 3) := by decide +kernel
theorem dX11_now_32 : decode cX11_now 32 = .ok (.iload_n 1, 1) := by decide +kernel
theorem dX11_now_33 : decode cX11_now 33 = .ok (.iconst 2, 1) := by decide +kernel
theorem dX11_now_34 : decode cX11_now 34 = .ok (.if_icmp .ne 7, 3) := by decide +kernel
theorem dX11_now_37 : decode cX11_now 37 = .ok (.iconst 3, 1) := by decide +kernel
theorem dX11_now_38 : decode cX11_now 38 = .ok (.goto 4, 3) := by decide +kernel
theorem dX11_now_41 : decode cX11_now 41 = .ok (.iconst 4, 1) := by decide +kernel
theorem dX11_now_42 : decode cX11_now 42 = .ok (.invokevirtual 158, 3) := by decide +kernel
theorem dX11_now_45 : decode cX11_now 45 = .ok (.ireturn, 1) := by decide +kernel
theorem dX11_now_46 : decode cX11_now 46 = .ok (.aload_n 0, 1) := by decide +kernel
theorem dX11_now_47 : decode cX11_now 47 = .ok (.getfield 33, 3) := by decide +kernel
theorem dX11_now_50 : decode cX11_now 50 = .ok (.aload_n 0, 1) := by decide +kernel
theorem dX11_now_51 : decode cX11_now 51 = .ok (.getfield 10, 3) := by decide +kernel
theorem dX11_now_54 : decode cX11_now 54 = .ok (.iconst (-1), 1) := by decide +kernel
theorem dX11_now_55 : decode cX11_now 55 = .ok (.invokevirtual 161, 3) := by decide +kernel
theorem dX11_now_58 : decode cX11_now 58 = .ok (.iload_n 1, 1) := by decide +kernel
theorem dX11_now_59 : decode cX11_now 59 = .ok (.ifCond .ne 13, 3) := by decide +kernel
theorem dX11_now_62 : decode cX11_now 62 = .ok (.aload_n 0, 1) := by decide +kernel
theorem dX11_now_63 : decode cX11_now 63 = .ok (.getfield 33, 3) := by decide +kernel
theorem dX11_now_66 : decode cX11_now 66 = .ok (.getfield 165, 3) := by decide +kernel
theorem dX11_now_69 : decode cX11_now 69 = .ok (.goto 10, 3) := by decide +kernel
theorem dX11_now_72 : decode cX11_now 72 = .ok (.aload_n 0, 1) := by decide +kernel
theorem dX11_now_73 : decode cX11_now 73 = .ok (.getfield 33, 3) := by decide +kernel
theorem dX11_now_76 : decode cX11_now 76 = .ok (.getfield 168, 3) := by decide +kernel
theorem dX11_now_79 : decode cX11_now 79 = .ok (.ireturn, 1) := by decide +kernel
theorem dX11_share_0 : decode cX11_share 0 = .ok (.iload_n 1, 1) := by decide +kernel
theorem dX11_share_1 : decode cX11_share 1 = .ok (.iconst 0, 1) := by decide +kernel
theorem dX11_share_2 : decode cX11_share 2 = .ok (.iconst 4, 1) := by decide +kernel
theorem dX11_share_3 : decode cX11_share 3 = .ok (.invokestatic 97, 3) := by decide +kernel
theorem dX11_share_6 : decode cX11_share 6 = .ok (.ifCond .ne 10, 3) := by decide +kernel
theorem dX11_share_9 : decode cX11_share 9 = .ok (.aload_n 0, 1) := by decide +kernel
theorem dX11_share_10 : decode cX11_share 10 = .ok (.bipush (-2), 2) := by decide +kernel
theorem dX11_share_12 : decode cX11_share 12 = .ok (.invokevirtual 71, 3) := by decide +kernel
theorem dX11_share_15 : decode cX11_share 15 = .ok (.ireturn, 1) := by decide +kernel
theorem dX11_share_16 : decode cX11_share 16 = .ok (.aload_n 0, 1) := by decide +kernel
theorem dX11_share_17 : decode cX11_share 17 = .ok (.getfield 33, 3) := by decide +kernel
theorem dX11_share_20 : decode cX11_share 20 = .ok (.aload_n 0, 1) := by decide +kernel
theorem dX11_share_21 : decode cX11_share 21 = .ok (.getfield 10, 3) := by decide +kernel
theorem dX11_share_24 : decode cX11_share 24 = .ok (.iload_n 1, 1) := by decide +kernel
theorem dX11_share_25 : decode cX11_share 25 = .ok (.invokevirtual 161, 3) := by decide +kernel
theorem dX11_share_28 : decode cX11_share 28 = .ok (.aload_n 0, 1) := by decide +kernel
theorem dX11_share_29 : decode cX11_share 29 = .ok (.getfield 47, 3) := by decide +kernel
theorem dX11_share_32 : decode cX11_share 32 = .ok (.aload_n 0, 1) := by decide +kernel
theorem dX11_share_33 : decode cX11_share 33 = .ok (.getfield 33, 3) := by decide +kernel
theorem dX11_share_36 : decode cX11_share 36 = .ok (.invokevirtual 171, 3) := by decide +kernel
theorem dX11_share_39 : decode cX11_share 39 = .ok (.aload_n 0, 1) := by decide +kernel
theorem dX11_share_40 : decode cX11_share 40 = .ok (.getfield 33, 3) := by decide +kernel
theorem dX11_share_43 : decode cX11_share 43 = .ok (.invokevirtual 175, 3) := by decide +kernel
theorem dX11_share_46 : decode cX11_share 46 = .ok (.invokevirtual 178, 3) := by decide +kernel
theorem dX11_share_49 : decode cX11_share 49 = .ok (.iconst 1, 1) := by decide +kernel
theorem dX11_share_50 : decode cX11_share 50 = .ok (.ireturn, 1) := by decide +kernel
theorem dX11_net_0 : decode cX11_net 0 = .ok (.iload_n 1, 1) := by decide +kernel
theorem dX11_net_1 : decode cX11_net 1 = .ok (.iconst 0, 1) := by decide +kernel
theorem dX11_net_2 : decode cX11_net 2 = .ok (.iconst 3, 1) := by decide +kernel
theorem dX11_net_3 : decode cX11_net 3 = .ok (.invokestatic 97, 3) := by decide +kernel
theorem dX11_net_6 : decode cX11_net 6 = .ok (.ifCond .ne 10, 3) := by decide +kernel
theorem dX11_net_9 : decode cX11_net 9 = .ok (.aload_n 0, 1) := by decide +kernel
theorem dX11_net_10 : decode cX11_net 10 = .ok (.bipush (-2), 2) := by decide +kernel
theorem dX11_net_12 : decode cX11_net 12 = .ok (.invokevirtual 71, 3) := by decide +kernel
theorem dX11_net_15 : decode cX11_net 15 = .ok (.ireturn, 1) := by decide +kernel
theorem dX11_net_16 : decode cX11_net 16 = .ok (.aload_n 0, 1) := by decide +kernel
theorem dX11_net_17 : decode cX11_net 17 = .ok (.getfield 33, 3) := by decide +kernel
theorem dX11_net_20 : decode cX11_net 20 = .ok (.aload_n 0, 1) := by decide +kernel
theorem dX11_net_21 : decode cX11_net 21 = .ok (.getfield 10, 3) := by decide +kernel
theorem dX11_net_24 : decode cX11_net 24 = .ok (.iload_n 1, 1) := by decide +kernel
theorem dX11_net_25 : decode cX11_net 25 = .ok (.invokevirtual 161, 3) := by decide +kernel
theorem dX11_net_28 : decode cX11_net 28 = .ok (.aload_n 0, 1) := by decide +kernel
theorem dX11_net_29 : decode cX11_net 29 = .ok (.getfield 47, 3) := by decide +kernel
theorem dX11_net_32 : decode cX11_net 32 = .ok (.aload_n 0, 1) := by decide +kernel
theorem dX11_net_33 : decode cX11_net 33 = .ok (.getfield 33, 3) := by decide +kernel
theorem dX11_net_36 : decode cX11_net 36 = .ok (.invokevirtual 181, 3) := by decide +kernel
theorem dX11_net_39 : decode cX11_net 39 = .ok (.aload_n 0, 1) := by decide +kernel
theorem dX11_net_40 : decode cX11_net 40 = .ok (.getfield 33, 3) := by decide +kernel
theorem dX11_net_43 : decode cX11_net 43 = .ok (.invokevirtual 175, 3) := by decide +kernel
theorem dX11_net_46 : decode cX11_net 46 = .ok (.invokevirtual 178, 3) := by decide +kernel
theorem dX11_net_49 : decode cX11_net 49 = .ok (.iconst 1, 1) := by decide +kernel
theorem dX11_net_50 : decode cX11_net 50 = .ok (.ireturn, 1) := by decide +kernel
theorem dX11_least_0 : decode cX11_least 0 = .ok (.iload_n 1, 1) := by decide +kernel
theorem dX11_least_1 : decode cX11_least 1 = .ok (.invokestatic 152, 3) := by decide +kernel
theorem dX11_least_4 : decode cX11_least 4 = .ok (.ifCond .eq 9, 3) := by decide +kernel
theorem dX11_least_7 : decode cX11_least 7 = .ok (.iload_n 2, 1) := by decide +kernel
theorem dX11_least_8 : decode cX11_least 8 = .ok (.bipush (-2), 2) := by decide +kernel
theorem dX11_least_10 : decode cX11_least 10 = .ok (.if_icmp .ge 13, 3) := by decide +kernel
theorem dX11_least_13 : decode cX11_least 13 = .ok (.aload_n 0, 1) := by decide +kernel
theorem dX11_least_14 : decode cX11_least 14 = .ok (.bipush (-2), 2) := by decide +kernel
theorem dX11_least_16 : decode cX11_least 16 = .ok (.invokevirtual 71, 3) := by decide +kernel
theorem dX11_least_19 : decode cX11_least 19 = .ok (.pop, 1) := by decide +kernel
theorem dX11_least_20 : decode cX11_least 20 = .ok (.bipush (-10), 2) := by decide +kernel
theorem dX11_least_22 : decode cX11_least 22 = .ok (.ireturn, 1) := by decide +kernel
theorem dX11_least_23 : decode cX11_least 23 = .ok (.aload_n 0, 1) := by decide +kernel
theorem dX11_least_24 : decode cX11_least 24 = .ok (.getfield 40, 3) := by decide +kernel
theorem dX11_least_27 : decode cX11_least 27 = .ok (.aload_n 0, 1) := by decide +kernel
theorem dX11_least_28 : decode cX11_least 28 = .ok (.getfield 10, 3) := by decide +kernel
theorem dX11_least_31 : decode cX11_least 31 = .ok (.aload_n 0, 1) := by decide +kernel
theorem dX11_least_32 : decode cX11_least 32 = .ok (.getfield 10, 3) := by decide +kernel
theorem dX11_least_35 : decode cX11_least 35 = .ok (.getfield 125, 3) := by decide +kernel
theorem dX11_least_38 : decode cX11_least 38 = .ok (.iload_n 1, 1) := by decide +kernel
theorem dX11_least_39 : decode cX11_least 39 = .ok (.invokevirtual 184, 3) := by decide +kernel
theorem dX11_least_42 : decode cX11_least 42 = .ok (.istore_n 3, 1) := by decide +kernel
theorem dX11_least_43 : decode cX11_least 43 = .ok (.iload_n 3, 1) := by decide +kernel
theorem dX11_least_44 : decode cX11_least 44 = .ok (.iconst (-1), 1) := by decide +kernel
theorem dX11_least_45 : decode cX11_least 45 = .ok (.if_icmp .eq 9, 3) := by decide +kernel
theorem dX11_least_48 : decode cX11_least 48 = .ok (.iload_n 2, 1) := by decide +kernel
theorem dX11_least_49 : decode cX11_least 49 = .ok (.bipush (-2), 2) := by decide +kernel
theorem dX11_least_51 : decode cX11_least 51 = .ok (.if_icmp .ne 5, 3) := by decide +kernel
theorem dX11_least_54 : decode cX11_least 54 = .ok (.iload_n 3, 1) := by decide +kernel
theorem dX11_least_55 : decode cX11_least 55 = .ok (.ireturn, 1) := by decide +kernel
theorem dX11_least_56 : decode cX11_least 56 = .ok (.iload_n 2, 1) := by decide +kernel
theorem dX11_least_57 : decode cX11_least 57 = .ok (.iconst (-1), 1) := by decide +kernel
theorem dX11_least_58 : decode cX11_least 58 = .ok (.if_icmp .ne 15, 3) := by decide +kernel
theorem dX11_least_61 : decode cX11_least 61 = .ok (.aload_n 0, 1) := by decide +kernel
theorem dX11_least_62 : decode cX11_least 62 = .ok (.getfield 10, 3) := by decide +kernel
theorem dX11_least_65 : decode cX11_least 65 = .ok (.iload_n 3, 1) := by decide +kernel
theorem dX11_least_66 : decode cX11_least 66 = .ok (.iconst 4, 1) := by decide +kernel
theorem dX11_least_67 : decode cX11_least 67 = .ok (.invokevirtual 158, 3) := by decide +kernel
theorem dX11_least_70 : decode cX11_least 70 = .ok (.goto 9, 3) := by decide +kernel
theorem dX11_least_73 : decode cX11_least 73 = .ok (.aload_n 0, 1) := by decide +kernel
theorem dX11_least_74 : decode cX11_least 74 = .ok (.iload_n 3, 1) := by decide +kernel
theorem dX11_least_75 : decode cX11_least 75 = .ok (.iload_n 2, 1) := by decide +kernel
theorem dX11_least_76 : decode cX11_least 76 = .ok (.invokevirtual 188, 3) := by decide +kernel
theorem dX11_least_79 : decode cX11_least 79 = .ok (.ireturn, 1) := by decide +kernel
theorem dX11_needful_0 : decode cX11_needful 0 = .ok (.iload_n 1, 1) := by decide +kernel
theorem dX11_needful_1 : decode cX11_needful 1 = .ok (.invokestatic 152, 3) := by decide +kernel
theorem dX11_needful_4 : decode cX11_needful 4 = .ok (.ifCond .ne 10, 3) := by decide +kernel
theorem dX11_needful_7 : decode cX11_needful 7 = .ok (.aload_n 0, 1) := by decide +kernel
theorem dX11_needful_8 : decode cX11_needful 8 = .ok (.bipush (-2), 2) := by decide +kernel
theorem dX11_needful_10 : decode cX11_needful 10 = .ok (.invokevirtual 71, 3) := by decide +kernel
theorem dX11_needful_13 : decode cX11_needful 13 = .ok (.ireturn, 1) := by decide +kernel
theorem dX11_needful_14 : decode cX11_needful 14 = .ok (.aload_n 0, 1) := by decide +kernel
theorem dX11_needful_15 : decode cX11_needful 15 = .ok (.getfield 10, 3) := by decide +kernel
theorem dX11_needful_18 : decode cX11_needful 18 = .ok (.invokevirtual 191, 3) := by decide +kernel
theorem dX11_needful_21 : decode cX11_needful 21 = .ok (.istore_n 2, 1) := by decide +kernel
theorem dX11_needful_22 : decode cX11_needful 22 = .ok (.iconst 0, 1) := by decide +kernel
theorem dX11_needful_23 : decode cX11_needful 23 = .ok (.istore_n 3, 1) := by decide +kernel
theorem dX11_needful_24 : decode cX11_needful 24 = .ok (.iconst 0, 1) := by decide +kernel
theorem dX11_needful_25 : decode cX11_needful 25 = .ok (.istore 4, 2) := by decide +kernel
theorem dX11_needful_27 : decode cX11_needful 27 = .ok (.iload 4, 2) := by decide +kernel
theorem dX11_needful_29 : decode cX11_needful 29 = .ok (.aload_n 0, 1) := by decide +kernel
theorem dX11_needful_30 : decode cX11_needful 30 = .ok (.getfield 10, 3) := by decide +kernel
theorem dX11_needful_33 : decode cX11_needful 33 = .ok (.getfield 75, 3) := by decide +kernel
theorem dX11_needful_36 : decode cX11_needful 36 = .ok (.if_icmp .ge 48, 3) := by decide +kernel
theorem dX11_needful_39 : decode cX11_needful 39 = .ok (.iload_n 2, 1) := by decide +kernel
theorem dX11_needful_40 : decode cX11_needful 40 = .ok (.iload 4, 2) := by decide +kernel
theorem dX11_needful_42 : decode cX11_needful 42 = .ok (.invokestatic 149, 3) := by decide +kernel
theorem dX11_needful_45 : decode cX11_needful 45 = .ok (.ifCond .eq 33, 3) := by decide +kernel
theorem dX11_needful_48 : decode cX11_needful 48 = .ok (.aload_n 0, 1) := by decide +kernel
theorem dX11_needful_49 : decode cX11_needful 49 = .ok (.getfield 10, 3) := by decide +kernel
theorem dX11_needful_52 : decode cX11_needful 52 = .ok (.iload_n 1, 1) := by decide +kernel
theorem dX11_needful_53 : decode cX11_needful 53 = .ok (.aload_n 0, 1) := by decide +kernel
theorem dX11_needful_54 : decode cX11_needful 54 = .ok (.getfield 10, 3) := by decide +kernel
theorem dX11_needful_57 : decode cX11_needful 57 = .ok (.getfield 125, 3) := by decide +kernel
theorem dX11_needful_60 : decode cX11_needful 60 = .ok (.iconst 1, 1) := by decide +kernel
theorem dX11_needful_61 : decode cX11_needful 61 = .ok (.iload 4, 2) := by decide +kernel
theorem dX11_needful_63 : decode cX11_needful 63 = .ok (.ishl, 1) := by decide +kernel
theorem dX11_needful_64 : decode cX11_needful 64 = .ok (.ior, 1) := by decide +kernel
theorem dX11_needful_65 : decode cX11_needful 65 = .ok (.invokevirtual 155, 3) := by decide +kernel
theorem dX11_needful_68 : decode cX11_needful 68 = .ok (.ifCond .ne 10, 3) := by decide +kernel
theorem dX11_needful_71 : decode cX11_needful 71 = .ok (.iload_n 3, 1) := by decide +kernel
theorem dX11_needful_72 : decode cX11_needful 72 = .ok (.iconst 1, 1) := by decide +kernel
theorem dX11_needful_73 : decode cX11_needful 73 = .ok (.iload 4, 2) := by decide +kernel
theorem dX11_needful_75 : decode cX11_needful 75 = .ok (.ishl, 1) := by decide +kernel
theorem dX11_needful_76 : decode cX11_needful 76 = .ok (.ior, 1) := by decide +kernel
theorem dX11_needful_77 : decode cX11_needful 77 = .ok (.istore_n 3, 1) := by decide +kernel
theorem dX11_needful_78 : decode cX11_needful 78 = .ok (.iinc 4 1, 3) := by decide +kernel
theorem dX11_needful_81 : decode cX11_needful 81 = .ok (.goto (-54), 3) := by decide +kernel
theorem dX11_needful_84 : decode cX11_needful 84 = .ok (.iload_n 3, 1) := by decide +kernel
theorem dX11_needful_85 : decode cX11_needful 85 = .ok (.ireturn, 1) := by decide +kernel
theorem dX11_stow_0 : decode cX11_stow 0 = .ok (.aload_n 0, 1) := by decide +kernel
theorem dX11_stow_1 : decode cX11_stow 1 = .ok (.getfield 10, 3) := by decide +kernel
theorem dX11_stow_4 : decode cX11_stow 4 = .ok (.iload_n 1, 1) := by decide +kernel
theorem dX11_stow_5 : decode cX11_stow 5 = .ok (.invokevirtual 93, 3) := by decide +kernel
theorem dX11_stow_8 : decode cX11_stow 8 = .ok (.ifCond .eq 10, 3) := by decide +kernel
theorem dX11_stow_11 : decode cX11_stow 11 = .ok (.iload_n 2, 1) := by decide +kernel
theorem dX11_stow_12 : decode cX11_stow 12 = .ok (.invokestatic 152, 3) := by decide +kernel
theorem dX11_stow_15 : decode cX11_stow 15 = .ok (.ifCond .ne 10, 3) := by decide +kernel
theorem dX11_stow_18 : decode cX11_stow 18 = .ok (.aload_n 0, 1) := by decide +kernel
theorem dX11_stow_19 : decode cX11_stow 19 = .ok (.bipush (-2), 2) := by decide +kernel
theorem dX11_stow_21 : decode cX11_stow 21 = .ok (.invokevirtual 71, 3) := by decide +kernel
theorem dX11_stow_24 : decode cX11_stow 24 = .ok (.ireturn, 1) := by decide +kernel
theorem dX11_stow_25 : decode cX11_stow 25 = .ok (.aload_n 0, 1) := by decide +kernel
theorem dX11_stow_26 : decode cX11_stow 26 = .ok (.getfield 10, 3) := by decide +kernel
theorem dX11_stow_29 : decode cX11_stow 29 = .ok (.getfield 125, 3) := by decide +kernel
theorem dX11_stow_32 : decode cX11_stow 32 = .ok (.iload_n 1, 1) := by decide +kernel
theorem dX11_stow_33 : decode cX11_stow 33 = .ok (.invokestatic 149, 3) := by decide +kernel
theorem dX11_stow_36 : decode cX11_stow 36 = .ok (.ifCond .ne 10, 3) := by decide +kernel
theorem dX11_stow_39 : decode cX11_stow 39 = .ok (.aload_n 0, 1) := by decide +kernel
theorem dX11_stow_40 : decode cX11_stow 40 = .ok (.bipush (-3), 2) := by decide +kernel
theorem dX11_stow_42 : decode cX11_stow 42 = .ok (.invokevirtual 71, 3) := by decide +kernel
theorem dX11_stow_45 : decode cX11_stow 45 = .ok (.ireturn, 1) := by decide +kernel
theorem dX11_stow_46 : decode cX11_stow 46 = .ok (.iconst 0, 1) := by decide +kernel
theorem dX11_stow_47 : decode cX11_stow 47 = .ok (.istore_n 3, 1) := by decide +kernel
theorem dX11_stow_48 : decode cX11_stow 48 = .ok (.iload_n 3, 1) := by decide +kernel
theorem dX11_stow_49 : decode cX11_stow 49 = .ok (.iconst 3, 1) := by decide +kernel
theorem dX11_stow_50 : decode cX11_stow 50 = .ok (.if_icmp .gt 69, 3) := by decide +kernel
theorem dX11_stow_53 : decode cX11_stow 53 = .ok (.iload_n 3, 1) := by decide +kernel
theorem dX11_stow_54 : decode cX11_stow 54 = .ok (.iconst 3, 1) := by decide +kernel
theorem dX11_stow_55 : decode cX11_stow 55 = .ok (.if_icmp .ne 25, 3) := by decide +kernel
theorem dX11_stow_58 : decode cX11_stow 58 = .ok (.aload_n 0, 1) := by decide +kernel
theorem dX11_stow_59 : decode cX11_stow 59 = .ok (.getfield 40, 3) := by decide +kernel
theorem dX11_stow_62 : decode cX11_stow 62 = .ok (.aload_n 0, 1) := by decide +kernel
theorem dX11_stow_63 : decode cX11_stow 63 = .ok (.getfield 10, 3) := by decide +kernel
theorem dX11_stow_66 : decode cX11_stow 66 = .ok (.aload_n 0, 1) := by decide +kernel
theorem dX11_stow_67 : decode cX11_stow 67 = .ok (.getfield 10, 3) := by decide +kernel
theorem dX11_stow_70 : decode cX11_stow 70 = .ok (.getfield 125, 3) := by decide +kernel
theorem dX11_stow_73 : decode cX11_stow 73 = .ok (.iload_n 2, 1) := by decide +kernel
theorem dX11_stow_74 : decode cX11_stow 74 = .ok (.invokevirtual 184, 3) := by decide +kernel
theorem dX11_stow_77 : decode cX11_stow 77 = .ok (.goto 17, 3) := by decide +kernel
theorem dX11_stow_80 : decode cX11_stow 80 = .ok (.aload_n 0, 1) := by decide +kernel
theorem dX11_stow_81 : decode cX11_stow 81 = .ok (.getfield 40, 3) := by decide +kernel
theorem dX11_stow_84 : decode cX11_stow 84 = .ok (.aload_n 0, 1) := by decide +kernel
theorem dX11_stow_85 : decode cX11_stow 85 = .ok (.getfield 10, 3) := by decide +kernel
theorem dX11_stow_88 : decode cX11_stow 88 = .ok (.iload_n 2, 1) := by decide +kernel
theorem dX11_stow_89 : decode cX11_stow 89 = .ok (.iload_n 1, 1) := by decide +kernel
theorem dX11_stow_90 : decode cX11_stow 90 = .ok (.iload_n 3, 1) := by decide +kernel
theorem dX11_stow_91 : decode cX11_stow 91 = .ok (.invokevirtual 195, 3) := by decide +kernel
theorem dX11_stow_94 : decode cX11_stow 94 = .ok (.istore 4, 2) := by decide +kernel
theorem dX11_stow_96 : decode cX11_stow 96 = .ok (.iload 4, 2) := by decide +kernel
theorem dX11_stow_98 : decode cX11_stow 98 = .ok (.iconst (-1), 1) := by decide +kernel
theorem dX11_stow_99 : decode cX11_stow 99 = .ok (.if_icmp .eq 14, 3) := by decide +kernel
theorem dX11_stow_102 : decode cX11_stow 102 = .ok (.iload 4, 2) := by decide +kernel
theorem dX11_stow_104 : decode cX11_stow 104 = .ok (.iload_n 1, 1) := by decide +kernel
theorem dX11_stow_105 : decode cX11_stow 105 = .ok (.invokestatic 149, 3) := by decide +kernel
theorem dX11_stow_108 : decode cX11_stow 108 = .ok (.ifCond .ne 5, 3) := by decide +kernel
theorem dX11_stow_111 : decode cX11_stow 111 = .ok (.iload_n 3, 1) := by decide +kernel
theorem dX11_stow_112 : decode cX11_stow 112 = .ok (.ireturn, 1) := by decide +kernel
theorem dX11_stow_113 : decode cX11_stow 113 = .ok (.iinc 3 1, 3) := by decide +kernel
theorem dX11_stow_116 : decode cX11_stow 116 = .ok (.goto (-68), 3) := by decide +kernel
theorem dX11_stow_119 : decode cX11_stow 119 = .ok (.iconst (-1), 1) := by decide +kernel
theorem dX11_stow_120 : decode cX11_stow 120 = .ok (.ireturn, 1) := by decide +kernel
theorem dX11_tell_0 : decode cX11_tell 0 = .ok (.aload_n 0, 1) := by decide +kernel
theorem dX11_tell_1 : decode cX11_tell 1 = .ok (.getfield 10, 3) := by decide +kernel
theorem dX11_tell_4 : decode cX11_tell 4 = .ok (.iload_n 1, 1) := by decide +kernel
theorem dX11_tell_5 : decode cX11_tell 5 = .ok (.invokevirtual 93, 3) := by decide +kernel
theorem dX11_tell_8 : decode cX11_tell 8 = .ok (.ifCond .ne 10, 3) := by decide +kernel
theorem dX11_tell_11 : decode cX11_tell 11 = .ok (.aload_n 0, 1) := by decide +kernel
theorem dX11_tell_12 : decode cX11_tell 12 = .ok (.bipush (-2), 2) := by decide +kernel
theorem dX11_tell_14 : decode cX11_tell 14 = .ok (.invokevirtual 71, 3) := by decide +kernel
theorem dX11_tell_17 : decode cX11_tell 17 = .ok (.ireturn, 1) := by decide +kernel
theorem dX11_tell_18 : decode cX11_tell 18 = .ok (.iconst 0, 1) := by decide +kernel
theorem dX11_tell_19 : decode cX11_tell 19 = .ok (.istore_n 2, 1) := by decide +kernel
theorem dX11_tell_20 : decode cX11_tell 20 = .ok (.lconst 0, 1) := by decide +kernel
theorem dX11_tell_21 : decode cX11_tell 21 = .ok (.lstore_n 3, 1) := by decide +kernel
theorem dX11_tell_22 : decode cX11_tell 22 = .ok (.lconst 1, 1) := by decide +kernel
theorem dX11_tell_23 : decode cX11_tell 23 = .ok (.lstore 5, 2) := by decide +kernel
theorem dX11_tell_25 : decode cX11_tell 25 = .ok (.iconst 0, 1) := by decide +kernel
theorem dX11_tell_26 : decode cX11_tell 26 = .ok (.istore 7, 2) := by decide +kernel
theorem dX11_tell_28 : decode cX11_tell 28 = .ok (.iload 7, 2) := by decide +kernel
theorem dX11_tell_30 : decode cX11_tell 30 = .ok (.bipush 60, 2) := by decide +kernel
theorem dX11_tell_32 : decode cX11_tell 32 = .ok (.if_icmp .gt 69, 3) := by decide +kernel
theorem dX11_tell_35 : decode cX11_tell 35 = .ok (.aload_n 0, 1) := by decide +kernel
theorem dX11_tell_36 : decode cX11_tell 36 = .ok (.getfield 33, 3) := by decide +kernel
theorem dX11_tell_39 : decode cX11_tell 39 = .ok (.aload_n 0, 1) := by decide +kernel
theorem dX11_tell_40 : decode cX11_tell 40 = .ok (.getfield 10, 3) := by decide +kernel
theorem dX11_tell_43 : decode cX11_tell 43 = .ok (.iload_n 1, 1) := by decide +kernel
theorem dX11_tell_44 : decode cX11_tell 44 = .ok (.iload 7, 2) := by decide +kernel
theorem dX11_tell_46 : decode cX11_tell 46 = .ok (.invokevirtual 199, 3) := by decide +kernel
theorem dX11_tell_49 : decode cX11_tell 49 = .ok (.aload_n 0, 1) := by decide +kernel
theorem dX11_tell_50 : decode cX11_tell 50 = .ok (.getfield 33, 3) := by decide +kernel
theorem dX11_tell_53 : decode cX11_tell 53 = .ok (.invokevirtual 181, 3) := by decide +kernel
theorem dX11_tell_56 : decode cX11_tell 56 = .ok (.lstore 8, 2) := by decide +kernel
theorem dX11_tell_58 : decode cX11_tell 58 = .ok (.aload_n 0, 1) := by decide +kernel
theorem dX11_tell_59 : decode cX11_tell 59 = .ok (.getfield 33, 3) := by decide +kernel
theorem dX11_tell_62 : decode cX11_tell 62 = .ok (.invokevirtual 175, 3) := by decide +kernel
theorem dX11_tell_65 : decode cX11_tell 65 = .ok (.lstore 10, 2) := by decide +kernel
theorem dX11_tell_67 : decode cX11_tell 67 = .ok (.iload 7, 2) := by decide +kernel
theorem dX11_tell_69 : decode cX11_tell 69 = .ok (.ifCond .eq 16, 3) := by decide +kernel
theorem dX11_tell_72 : decode cX11_tell 72 = .ok (.lload 8, 2) := by decide +kernel
theorem dX11_tell_74 : decode cX11_tell 74 = .ok (.lload 5, 2) := by decide +kernel
theorem dX11_tell_76 : decode cX11_tell 76 = .ok (.lmul, 1) := by decide +kernel
theorem dX11_tell_77 : decode cX11_tell 77 = .ok (.lload_n 3, 1) := by decide +kernel
theorem dX11_tell_78 : decode cX11_tell 78 = .ok (.lload 10, 2) := by decide +kernel
theorem dX11_tell_80 : decode cX11_tell 80 = .ok (.lmul, 1) := by decide +kernel
theorem dX11_tell_81 : decode cX11_tell 81 = .ok (.lcmp, 1) := by decide +kernel
theorem dX11_tell_82 : decode cX11_tell 82 = .ok (.ifCond .ge 13, 3) := by decide +kernel
theorem dX11_tell_85 : decode cX11_tell 85 = .ok (.iload 7, 2) := by decide +kernel
theorem dX11_tell_87 : decode cX11_tell 87 = .ok (.istore_n 2, 1) := by decide +kernel
theorem dX11_tell_88 : decode cX11_tell 88 = .ok (.lload 8, 2) := by decide +kernel
theorem dX11_tell_90 : decode cX11_tell 90 = .ok (.lstore_n 3, 1) := by decide +kernel
theorem dX11_tell_91 : decode cX11_tell 91 = .ok (.lload 10, 2) := by decide +kernel
theorem dX11_tell_93 : decode cX11_tell 93 = .ok (.lstore 5, 2) := by decide +kernel
theorem dX11_tell_95 : decode cX11_tell 95 = .ok (.iinc 7 1, 3) := by decide +kernel
theorem dX11_tell_98 : decode cX11_tell 98 = .ok (.goto (-70), 3) := by decide +kernel
theorem dX11_tell_101 : decode cX11_tell 101 = .ok (.iload_n 2, 1) := by decide +kernel
theorem dX11_tell_102 : decode cX11_tell 102 = .ok (.ireturn, 1) := by decide +kernel
theorem dX11_marked_0 : decode cX11_marked 0 = .ok (.aload_n 0, 1) := by decide +kernel
theorem dX11_marked_1 : decode cX11_marked 1 = .ok (.getfield 10, 3) := by decide +kernel
theorem dX11_marked_4 : decode cX11_marked 4 = .ok (.iload_n 1, 1) := by decide +kernel
theorem dX11_marked_5 : decode cX11_marked 5 = .ok (.invokevirtual 93, 3) := by decide +kernel
theorem dX11_marked_8 : decode cX11_marked 8 = .ok (.ifCond .eq 13, 3) := by decide +kernel
theorem dX11_marked_11 : decode cX11_marked 11 = .ok (.iload_n 2, 1) := by decide +kernel
theorem dX11_marked_12 : decode cX11_marked 12 = .ok (.iconst 0, 1) := by decide +kernel
theorem dX11_marked_13 : decode cX11_marked 13 = .ok (.bipush 60, 2) := by decide +kernel
theorem dX11_marked_15 : decode cX11_marked 15 = .ok (.invokestatic 97, 3) := by decide +kernel
theorem dX11_marked_18 : decode cX11_marked 18 = .ok (.ifCond .ne 10, 3) := by decide +kernel
theorem dX11_marked_21 : decode cX11_marked 21 = .ok (.aload_n 0, 1) := by decide +kernel
theorem dX11_marked_22 : decode cX11_marked 22 = .ok (.bipush (-2), 2) := by decide +kernel
theorem dX11_marked_24 : decode cX11_marked 24 = .ok (.invokevirtual 71, 3) := by decide +kernel
theorem dX11_marked_27 : decode cX11_marked 27 = .ok (.ireturn, 1) := by decide +kernel
theorem dX11_marked_28 : decode cX11_marked 28 = .ok (.aload_n 0, 1) := by decide +kernel
theorem dX11_marked_29 : decode cX11_marked 29 = .ok (.getfield 33, 3) := by decide +kernel
theorem dX11_marked_32 : decode cX11_marked 32 = .ok (.aload_n 0, 1) := by decide +kernel
theorem dX11_marked_33 : decode cX11_marked 33 = .ok (.getfield 10, 3) := by decide +kernel
theorem dX11_marked_36 : decode cX11_marked 36 = .ok (.iload_n 1, 1) := by decide +kernel
theorem dX11_marked_37 : decode cX11_marked 37 = .ok (.iload_n 2, 1) := by decide +kernel
theorem dX11_marked_38 : decode cX11_marked 38 = .ok (.invokevirtual 199, 3) := by decide +kernel
theorem dX11_marked_41 : decode cX11_marked 41 = .ok (.aload_n 0, 1) := by decide +kernel
theorem dX11_marked_42 : decode cX11_marked 42 = .ok (.getfield 47, 3) := by decide +kernel
theorem dX11_marked_45 : decode cX11_marked 45 = .ok (.aload_n 0, 1) := by decide +kernel
theorem dX11_marked_46 : decode cX11_marked 46 = .ok (.getfield 33, 3) := by decide +kernel
theorem dX11_marked_49 : decode cX11_marked 49 = .ok (.invokevirtual 181, 3) := by decide +kernel
theorem dX11_marked_52 : decode cX11_marked 52 = .ok (.aload_n 0, 1) := by decide +kernel
theorem dX11_marked_53 : decode cX11_marked 53 = .ok (.getfield 33, 3) := by decide +kernel
theorem dX11_marked_56 : decode cX11_marked 56 = .ok (.invokevirtual 175, 3) := by decide +kernel
theorem dX11_marked_59 : decode cX11_marked 59 = .ok (.invokevirtual 178, 3) := by decide +kernel
theorem dX11_marked_62 : decode cX11_marked 62 = .ok (.iconst 1, 1) := by decide +kernel
theorem dX11_marked_63 : decode cX11_marked 63 = .ok (.ireturn, 1) := by decide +kernel
theorem dX11_seen_0 : decode cX11_seen 0 = .ok (.aload_n 0, 1) := by decide +kernel
theorem dX11_seen_1 : decode cX11_seen 1 = .ok (.getfield 61, 3) := by decide +kernel
theorem dX11_seen_4 : decode cX11_seen 4 = .ok (.iconst 0, 1) := by decide +kernel
theorem dX11_seen_5 : decode cX11_seen 5 = .ok (.iload_n 1, 1) := by decide +kernel
theorem dX11_seen_6 : decode cX11_seen 6 = .ok (.iastore, 1) := by decide +kernel
theorem dX11_seen_7 : decode cX11_seen 7 = .ok (.aload_n 0, 1) := by decide +kernel
theorem dX11_seen_8 : decode cX11_seen 8 = .ok (.getfield 61, 3) := by decide +kernel
theorem dX11_seen_11 : decode cX11_seen 11 = .ok (.iconst 1, 1) := by decide +kernel
theorem dX11_seen_12 : decode cX11_seen 12 = .ok (.iload_n 2, 1) := by decide +kernel
theorem dX11_seen_13 : decode cX11_seen 13 = .ok (.iastore, 1) := by decide +kernel
theorem dX11_seen_14 : decode cX11_seen 14 = .ok (.aload_n 0, 1) := by decide +kernel
theorem dX11_seen_15 : decode cX11_seen 15 = .ok (.getfield 61, 3) := by decide +kernel
theorem dX11_seen_18 : decode cX11_seen 18 = .ok (.iconst 2, 1) := by decide +kernel
theorem dX11_seen_19 : decode cX11_seen 19 = .ok (.iload_n 3, 1) := by decide +kernel
theorem dX11_seen_20 : decode cX11_seen 20 = .ok (.iastore, 1) := by decide +kernel
theorem dX11_seen_21 : decode cX11_seen 21 = .ok (.aload_n 0, 1) := by decide +kernel
theorem dX11_seen_22 : decode cX11_seen 22 = .ok (.getfield 61, 3) := by decide +kernel
theorem dX11_seen_25 : decode cX11_seen 25 = .ok (.getstatic 203, 3) := by decide +kernel
theorem dX11_seen_28 : decode cX11_seen 28 = .ok (.getstatic 206, 3) := by decide +kernel
theorem dX11_seen_31 : decode cX11_seen 31 = .ok (.invokestatic 67, 3) := by decide +kernel
theorem dX11_seen_34 : decode cX11_seen 34 = .ok (.ifCond .ne 10, 3) := by decide +kernel
theorem dX11_seen_37 : decode cX11_seen 37 = .ok (.aload_n 0, 1) := by decide +kernel
theorem dX11_seen_38 : decode cX11_seen 38 = .ok (.bipush (-2), 2) := by decide +kernel
theorem dX11_seen_40 : decode cX11_seen 40 = .ok (.invokevirtual 71, 3) := by decide +kernel
theorem dX11_seen_43 : decode cX11_seen 43 = .ok (.ireturn, 1) := by decide +kernel
theorem dX11_seen_44 : decode cX11_seen 44 = .ok (.aload_n 0, 1) := by decide +kernel
theorem dX11_seen_45 : decode cX11_seen 45 = .ok (.getfield 10, 3) := by decide +kernel
theorem dX11_seen_48 : decode cX11_seen 48 = .ok (.aload_n 0, 1) := by decide +kernel
theorem dX11_seen_49 : decode cX11_seen 49 = .ok (.getfield 61, 3) := by decide +kernel
theorem dX11_seen_52 : decode cX11_seen 52 = .ok (.invokevirtual 209, 3) := by decide +kernel
theorem dX11_seen_55 : decode cX11_seen 55 = .ok (.ifCond .eq 13, 3) := by decide +kernel
theorem dX11_seen_58 : decode cX11_seen 58 = .ok (.aload_n 0, 1) := by decide +kernel
theorem dX11_seen_59 : decode cX11_seen 59 = .ok (.getfield 10, 3) := by decide +kernel
theorem dX11_seen_62 : decode cX11_seen 62 = .ok (.getfield 213, 3) := by decide +kernel
theorem dX11_seen_65 : decode cX11_seen 65 = .ok (.goto 9, 3) := by decide +kernel
theorem dX11_seen_68 : decode cX11_seen 68 = .ok (.aload_n 0, 1) := by decide +kernel
theorem dX11_seen_69 : decode cX11_seen 69 = .ok (.bipush (-4), 2) := by decide +kernel
theorem dX11_seen_71 : decode cX11_seen 71 = .ok (.invokevirtual 71, 3) := by decide +kernel
theorem dX11_seen_74 : decode cX11_seen 74 = .ok (.ireturn, 1) := by decide +kernel
theorem dX11_forget_0 : decode cX11_forget 0 = .ok (.aload_n 0, 1) := by decide +kernel
theorem dX11_forget_1 : decode cX11_forget 1 = .ok (.getfield 10, 3) := by decide +kernel
theorem dX11_forget_4 : decode cX11_forget 4 = .ok (.getfield 213, 3) := by decide +kernel
theorem dX11_forget_7 : decode cX11_forget 7 = .ok (.istore_n 1, 1) := by decide +kernel
theorem dX11_forget_8 : decode cX11_forget 8 = .ok (.aload_n 0, 1) := by decide +kernel
theorem dX11_forget_9 : decode cX11_forget 9 = .ok (.getfield 10, 3) := by decide +kernel
theorem dX11_forget_12 : decode cX11_forget 12 = .ok (.iconst 0, 1) := by decide +kernel
theorem dX11_forget_13 : decode cX11_forget 13 = .ok (.putfield 213, 3) := by decide +kernel
theorem dX11_forget_16 : decode cX11_forget 16 = .ok (.iload_n 1, 1) := by decide +kernel
theorem dX11_forget_17 : decode cX11_forget 17 = .ok (.ireturn, 1) := by decide +kernel
theorem dX11_barrel_0 : decode cX11_barrel 0 = .ok (.aload_n 0, 1) := by decide +kernel
theorem dX11_barrel_1 : decode cX11_barrel 1 = .ok (.getfield 10, 3) := by decide +kernel
theorem dX11_barrel_4 : decode cX11_barrel 4 = .ok (.invokevirtual 216, 3) := by decide +kernel
theorem dX11_barrel_7 : decode cX11_barrel 7 = .ok (.ireturn, 1) := by decide +kernel
theorem dX11_whose_0 : decode cX11_whose 0 = .ok (.aload_n 0, 1) := by decide +kernel
theorem dX11_whose_1 : decode cX11_whose 1 = .ok (.getfield 10, 3) := by decide +kernel
theorem dX11_whose_4 : decode cX11_whose 4 = .ok (.invokevirtual 216, 3) := by decide +kernel
theorem dX11_whose_7 : decode cX11_whose 7 = .ok (.istore_n 1, 1) := by decide +kernel
theorem dX11_whose_8 : decode cX11_whose 8 = .ok (.iconst 0, 1) := by decide +kernel
theorem dX11_whose_9 : decode cX11_whose 9 = .ok (.istore_n 2, 1) := by decide +kernel
theorem dX11_whose_10 : decode cX11_whose 10 = .ok (.iconst 0, 1) := by decide +kernel
theorem dX11_whose_11 : decode cX11_whose 11 = .ok (.istore_n 3, 1) := by decide +kernel
theorem dX11_whose_12 : decode cX11_whose 12 = .ok (.iload_n 3, 1) := by decide +kernel
theorem dX11_whose_13 : decode cX11_whose 13 = .ok (.aload_n 0, 1) := by decide +kernel
theorem dX11_whose_14 : decode cX11_whose 14 = .ok (.getfield 10, 3) := by decide +kernel
theorem dX11_whose_17 : decode cX11_whose 17 = .ok (.getfield 75, 3) := by decide +kernel
theorem dX11_whose_20 : decode cX11_whose 20 = .ok (.if_icmp .ge 31, 3) := by decide +kernel
theorem dX11_whose_23 : decode cX11_whose 23 = .ok (.iload_n 1, 1) := by decide +kernel
theorem dX11_whose_24 : decode cX11_whose 24 = .ok (.iload_n 3, 1) := by decide +kernel
theorem dX11_whose_25 : decode cX11_whose 25 = .ok (.invokestatic 149, 3) := by decide +kernel
theorem dX11_whose_28 : decode cX11_whose 28 = .ok (.ifCond .eq 17, 3) := by decide +kernel
theorem dX11_whose_31 : decode cX11_whose 31 = .ok (.iload_n 2, 1) := by decide +kernel
theorem dX11_whose_32 : decode cX11_whose 32 = .ok (.iconst 1, 1) := by decide +kernel
theorem dX11_whose_33 : decode cX11_whose 33 = .ok (.aload_n 0, 1) := by decide +kernel
theorem dX11_whose_34 : decode cX11_whose 34 = .ok (.getfield 10, 3) := by decide +kernel
theorem dX11_whose_37 : decode cX11_whose 37 = .ok (.iload_n 3, 1) := by decide +kernel
theorem dX11_whose_38 : decode cX11_whose 38 = .ok (.iconst 1, 1) := by decide +kernel
theorem dX11_whose_39 : decode cX11_whose 39 = .ok (.invokevirtual 101, 3) := by decide +kernel
theorem dX11_whose_42 : decode cX11_whose 42 = .ok (.ishl, 1) := by decide +kernel
theorem dX11_whose_43 : decode cX11_whose 43 = .ok (.ior, 1) := by decide +kernel
theorem dX11_whose_44 : decode cX11_whose 44 = .ok (.istore_n 2, 1) := by decide +kernel
theorem dX11_whose_45 : decode cX11_whose 45 = .ok (.iinc 3 1, 3) := by decide +kernel
theorem dX11_whose_48 : decode cX11_whose 48 = .ok (.goto (-36), 3) := by decide +kernel
theorem dX11_whose_51 : decode cX11_whose 51 = .ok (.iload_n 2, 1) := by decide +kernel
theorem dX11_whose_52 : decode cX11_whose 52 = .ok (.ireturn, 1) := by decide +kernel
theorem dX11_asks_0 : decode cX11_asks 0 = .ok (.aload_n 0, 1) := by decide +kernel
theorem dX11_asks_1 : decode cX11_asks 1 = .ok (.getfield 10, 3) := by decide +kernel
theorem dX11_asks_4 : decode cX11_asks 4 = .ok (.invokevirtual 216, 3) := by decide +kernel
theorem dX11_asks_7 : decode cX11_asks 7 = .ok (.istore_n 1, 1) := by decide +kernel
theorem dX11_asks_8 : decode cX11_asks 8 = .ok (.iload_n 1, 1) := by decide +kernel
theorem dX11_asks_9 : decode cX11_asks 9 = .ok (.ifCond .ne 5, 3) := by decide +kernel
theorem dX11_asks_12 : decode cX11_asks 12 = .ok (.iconst (-1), 1) := by decide +kernel
theorem dX11_asks_13 : decode cX11_asks 13 = .ok (.ireturn, 1) := by decide +kernel
theorem dX11_asks_14 : decode cX11_asks 14 = .ok (.iconst (-1), 1) := by decide +kernel
theorem dX11_asks_15 : decode cX11_asks 15 = .ok (.istore_n 2, 1) := by decide +kernel
theorem dX11_asks_16 : decode cX11_asks 16 = .ok (.bipush 9, 2) := by decide +kernel
theorem dX11_asks_18 : decode cX11_asks 18 = .ok (.istore_n 3, 1) := by decide +kernel
theorem dX11_asks_19 : decode cX11_asks 19 = .ok (.iconst 0, 1) := by decide +kernel
theorem dX11_asks_20 : decode cX11_asks 20 = .ok (.istore 4, 2) := by decide +kernel
theorem dX11_asks_22 : decode cX11_asks 22 = .ok (.iload 4, 2) := by decide +kernel
theorem dX11_asks_24 : decode cX11_asks 24 = .ok (.bipush 9, 2) := by decide +kernel
theorem dX11_asks_26 : decode cX11_asks 26 = .ok (.if_icmp .ge 70, 3) := by decide +kernel
theorem dX11_asks_29 : decode cX11_asks 29 = .ok (.iload 4, 2) := by decide +kernel
theorem dX11_asks_31 : decode cX11_asks 31 = .ok (.iconst 3, 1) := by decide +kernel
theorem dX11_asks_32 : decode cX11_asks 32 = .ok (.if_icmp .ge 17, 3) := by decide +kernel
theorem dX11_asks_35 : decode cX11_asks 35 = .ok (.aload_n 0, 1) := by decide +kernel
theorem dX11_asks_36 : decode cX11_asks 36 = .ok (.getfield 10, 3) := by decide +kernel
theorem dX11_asks_39 : decode cX11_asks 39 = .ok (.iload_n 1, 1) := by decide +kernel
theorem dX11_asks_40 : decode cX11_asks 40 = .ok (.iconst 2, 1) := by decide +kernel
theorem dX11_asks_41 : decode cX11_asks 41 = .ok (.iload 4, 2) := by decide +kernel
theorem dX11_asks_43 : decode cX11_asks 43 = .ok (.invokevirtual 219, 3) := by decide +kernel
theorem dX11_asks_46 : decode cX11_asks 46 = .ok (.goto 16, 3) := by decide +kernel
theorem dX11_asks_49 : decode cX11_asks 49 = .ok (.aload_n 0, 1) := by decide +kernel
theorem dX11_asks_50 : decode cX11_asks 50 = .ok (.getfield 10, 3) := by decide +kernel
theorem dX11_asks_53 : decode cX11_asks 53 = .ok (.iload_n 1, 1) := by decide +kernel
theorem dX11_asks_54 : decode cX11_asks 54 = .ok (.iconst 0, 1) := by decide +kernel
theorem dX11_asks_55 : decode cX11_asks 55 = .ok (.iload 4, 2) := by decide +kernel
theorem dX11_asks_57 : decode cX11_asks 57 = .ok (.iconst 3, 1) := by decide +kernel
theorem dX11_asks_58 : decode cX11_asks 58 = .ok (.isub, 1) := by decide +kernel
theorem dX11_asks_59 : decode cX11_asks 59 = .ok (.invokevirtual 219, 3) := by decide +kernel
theorem dX11_asks_62 : decode cX11_asks 62 = .ok (.istore 5, 2) := by decide +kernel
theorem dX11_asks_64 : decode cX11_asks 64 = .ok (.iload 5, 2) := by decide +kernel
theorem dX11_asks_66 : decode cX11_asks 66 = .ok (.iload_n 1, 1) := by decide +kernel
theorem dX11_asks_67 : decode cX11_asks 67 = .ok (.invokestatic 144, 3) := by decide +kernel
theorem dX11_asks_70 : decode cX11_asks 70 = .ok (.iload 5, 2) := by decide +kernel
theorem dX11_asks_72 : decode cX11_asks 72 = .ok (.isub, 1) := by decide +kernel
theorem dX11_asks_73 : decode cX11_asks 73 = .ok (.invokestatic 223, 3) := by decide +kernel
theorem dX11_asks_76 : decode cX11_asks 76 = .ok (.istore 6, 2) := by decide +kernel
theorem dX11_asks_78 : decode cX11_asks 78 = .ok (.iload 6, 2) := by decide +kernel
theorem dX11_asks_80 : decode cX11_asks 80 = .ok (.iload_n 3, 1) := by decide +kernel
theorem dX11_asks_81 : decode cX11_asks 81 = .ok (.if_icmp .ge 9, 3) := by decide +kernel
theorem dX11_asks_84 : decode cX11_asks 84 = .ok (.iload 4, 2) := by decide +kernel
theorem dX11_asks_86 : decode cX11_asks 86 = .ok (.istore_n 2, 1) := by decide +kernel
theorem dX11_asks_87 : decode cX11_asks 87 = .ok (.iload 6, 2) := by decide +kernel
theorem dX11_asks_89 : decode cX11_asks 89 = .ok (.istore_n 3, 1) := by decide +kernel
theorem dX11_asks_90 : decode cX11_asks 90 = .ok (.iinc 4 1, 3) := by decide +kernel
theorem dX11_asks_93 : decode cX11_asks 93 = .ok (.goto (-71), 3) := by decide +kernel
theorem dX11_asks_96 : decode cX11_asks 96 = .ok (.iload_n 2, 1) := by decide +kernel
theorem dX11_asks_97 : decode cX11_asks 97 = .ok (.ireturn, 1) := by decide +kernel
theorem dX11_odds_0 : decode cX11_odds 0 = .ok (.iload_n 1, 1) := by decide +kernel
theorem dX11_odds_1 : decode cX11_odds 1 = .ok (.iconst 0, 1) := by decide +kernel
theorem dX11_odds_2 : decode cX11_odds 2 = .ok (.sipush 191, 3) := by decide +kernel
theorem dX11_odds_5 : decode cX11_odds 5 = .ok (.invokestatic 97, 3) := by decide +kernel
theorem dX11_odds_8 : decode cX11_odds 8 = .ok (.ifCond .ne 10, 3) := by decide +kernel
theorem dX11_odds_11 : decode cX11_odds 11 = .ok (.aload_n 0, 1) := by decide +kernel
theorem dX11_odds_12 : decode cX11_odds 12 = .ok (.bipush (-2), 2) := by decide +kernel
theorem dX11_odds_14 : decode cX11_odds 14 = .ok (.invokevirtual 71, 3) := by decide +kernel
theorem dX11_odds_17 : decode cX11_odds 17 = .ok (.ireturn, 1) := by decide +kernel
theorem dX11_odds_18 : decode cX11_odds 18 = .ok (.iconst 0, 1) := by decide +kernel
theorem dX11_odds_19 : decode cX11_odds 19 = .ok (.istore_n 2, 1) := by decide +kernel
theorem dX11_odds_20 : decode cX11_odds 20 = .ok (.iconst 0, 1) := by decide +kernel
theorem dX11_odds_21 : decode cX11_odds 21 = .ok (.istore_n 3, 1) := by decide +kernel
theorem dX11_odds_22 : decode cX11_odds 22 = .ok (.iload_n 3, 1) := by decide +kernel
theorem dX11_odds_23 : decode cX11_odds 23 = .ok (.bipush 10, 2) := by decide +kernel
theorem dX11_odds_25 : decode cX11_odds 25 = .ok (.if_icmp .ge 32, 3) := by decide +kernel
theorem dX11_odds_28 : decode cX11_odds 28 = .ok (.aload_n 0, 1) := by decide +kernel
theorem dX11_odds_29 : decode cX11_odds 29 = .ok (.getfield 10, 3) := by decide +kernel
theorem dX11_odds_32 : decode cX11_odds 32 = .ok (.iload_n 1, 1) := by decide +kernel
theorem dX11_odds_33 : decode cX11_odds 33 = .ok (.iload_n 3, 1) := by decide +kernel
theorem dX11_odds_34 : decode cX11_odds 34 = .ok (.iadd, 1) := by decide +kernel
theorem dX11_odds_35 : decode cX11_odds 35 = .ok (.aload_n 0, 1) := by decide +kernel
theorem dX11_odds_36 : decode cX11_odds 36 = .ok (.getfield 10, 3) := by decide +kernel
theorem dX11_odds_39 : decode cX11_odds 39 = .ok (.getfield 125, 3) := by decide +kernel
theorem dX11_odds_42 : decode cX11_odds 42 = .ok (.invokevirtual 155, 3) := by decide +kernel
theorem dX11_odds_45 : decode cX11_odds 45 = .ok (.ifCond .eq 6, 3) := by decide +kernel
theorem dX11_odds_48 : decode cX11_odds 48 = .ok (.iinc 2 1, 3) := by decide +kernel
theorem dX11_odds_51 : decode cX11_odds 51 = .ok (.iinc 3 1, 3) := by decide +kernel
theorem dX11_odds_54 : decode cX11_odds 54 = .ok (.goto (-32), 3) := by decide +kernel
theorem dX11_odds_57 : decode cX11_odds 57 = .ok (.aload_n 0, 1) := by decide +kernel
theorem dX11_odds_58 : decode cX11_odds 58 = .ok (.getfield 47, 3) := by decide +kernel
theorem dX11_odds_61 : decode cX11_odds 61 = .ok (.iload_n 2, 1) := by decide +kernel
theorem dX11_odds_62 : decode cX11_odds 62 = .ok (.i2l, 1) := by decide +kernel
theorem dX11_odds_63 : decode cX11_odds 63 = .ok (.ldc2_w 228, 3) := by decide +kernel
theorem dX11_odds_66 : decode cX11_odds 66 = .ok (.invokevirtual 178, 3) := by decide +kernel
theorem dX11_odds_69 : decode cX11_odds 69 = .ok (.iconst 1, 1) := by decide +kernel
theorem dX11_odds_70 : decode cX11_odds 70 = .ok (.ireturn, 1) := by decide +kernel
theorem dX11_safe_0 : decode cX11_safe 0 = .ok (.aload_n 0, 1) := by decide +kernel
theorem dX11_safe_1 : decode cX11_safe 1 = .ok (.getfield 10, 3) := by decide +kernel
theorem dX11_safe_4 : decode cX11_safe 4 = .ok (.getfield 230, 3) := by decide +kernel
theorem dX11_safe_7 : decode cX11_safe 7 = .ok (.aload_n 0, 1) := by decide +kernel
theorem dX11_safe_8 : decode cX11_safe 8 = .ok (.getfield 10, 3) := by decide +kernel
theorem dX11_safe_11 : decode cX11_safe 11 = .ok (.aload_n 0, 1) := by decide +kernel
theorem dX11_safe_12 : decode cX11_safe 12 = .ok (.getfield 10, 3) := by decide +kernel
theorem dX11_safe_15 : decode cX11_safe 15 = .ok (.getfield 125, 3) := by decide +kernel
theorem dX11_safe_18 : decode cX11_safe 18 = .ok (.iconst 3, 1) := by decide +kernel
theorem dX11_safe_19 : decode cX11_safe 19 = .ok (.invokevirtual 158, 3) := by decide +kernel
theorem dX11_safe_22 : decode cX11_safe 22 = .ok (.isub, 1) := by decide +kernel
theorem dX11_safe_23 : decode cX11_safe 23 = .ok (.istore_n 1, 1) := by decide +kernel
theorem dX11_safe_24 : decode cX11_safe 24 = .ok (.iload_n 1, 1) := by decide +kernel
theorem dX11_safe_25 : decode cX11_safe 25 = .ok (.ifCond .ge 7, 3) := by decide +kernel
theorem dX11_safe_28 : decode cX11_safe 28 = .ok (.iconst (-1), 1) := by decide +kernel
theorem dX11_safe_29 : decode cX11_safe 29 = .ok (.goto 10, 3) := by decide +kernel
theorem dX11_safe_32 : decode cX11_safe 32 = .ok (.iload_n 1, 1) := by decide +kernel
theorem dX11_safe_33 : decode cX11_safe 33 = .ok (.sipush 200, 3) := by decide +kernel
theorem dX11_safe_36 : decode cX11_safe 36 = .ok (.invokestatic 233, 3) := by decide +kernel
theorem dX11_safe_39 : decode cX11_safe 39 = .ok (.ireturn, 1) := by decide +kernel
theorem dX11_voyages_0 : decode cX11_voyages 0 = .ok (.iload_n 1, 1) := by decide +kernel
theorem dX11_voyages_1 : decode cX11_voyages 1 = .ok (.iconst 0, 1) := by decide +kernel
theorem dX11_voyages_2 : decode cX11_voyages 2 = .ok (.ldc 236, 2) := by decide +kernel
theorem dX11_voyages_4 : decode cX11_voyages 4 = .ok (.invokestatic 97, 3) := by decide +kernel
theorem dX11_voyages_7 : decode cX11_voyages 7 = .ok (.ifCond .eq 13, 3) := by decide +kernel
theorem dX11_voyages_10 : decode cX11_voyages 10 = .ok (.iload_n 2, 1) := by decide +kernel
theorem dX11_voyages_11 : decode cX11_voyages 11 = .ok (.iconst 0, 1) := by decide +kernel
theorem dX11_voyages_12 : decode cX11_voyages 12 = .ok (.bipush 30, 2) := by decide +kernel
theorem dX11_voyages_14 : decode cX11_voyages 14 = .ok (.invokestatic 97, 3) := by decide +kernel
theorem dX11_voyages_17 : decode cX11_voyages 17 = .ok (.ifCond .ne 10, 3) := by decide +kernel
theorem dX11_voyages_20 : decode cX11_voyages 20 = .ok (.aload_n 0, 1) := by decide +kernel
theorem dX11_voyages_21 : decode cX11_voyages 21 = .ok (.bipush (-2), 2) := by decide +kernel
theorem dX11_voyages_23 : decode cX11_voyages 23 = .ok (.invokevirtual 71, 3) := by decide +kernel
theorem dX11_voyages_26 : decode cX11_voyages 26 = .ok (.ireturn, 1) := by decide +kernel
theorem dX11_voyages_27 : decode cX11_voyages 27 = .ok (.iload_n 1, 1) := by decide +kernel
theorem dX11_voyages_28 : decode cX11_voyages 28 = .ok (.i2l, 1) := by decide +kernel
theorem dX11_voyages_29 : decode cX11_voyages 29 = .ok (.lstore_n 3, 1) := by decide +kernel
theorem dX11_voyages_30 : decode cX11_voyages 30 = .ok (.aload_n 0, 1) := by decide +kernel
theorem dX11_voyages_31 : decode cX11_voyages 31 = .ok (.getfield 10, 3) := by decide +kernel
theorem dX11_voyages_34 : decode cX11_voyages 34 = .ok (.getfield 125, 3) := by decide +kernel
theorem dX11_voyages_37 : decode cX11_voyages 37 = .ok (.istore 5, 2) := by decide +kernel
theorem dX11_voyages_39 : decode cX11_voyages 39 = .ok (.iconst 0, 1) := by decide +kernel
theorem dX11_voyages_40 : decode cX11_voyages 40 = .ok (.istore 6, 2) := by decide +kernel
theorem dX11_voyages_42 : decode cX11_voyages 42 = .ok (.iload 6, 2) := by decide +kernel
theorem dX11_voyages_44 : decode cX11_voyages 44 = .ok (.iload_n 2, 1) := by decide +kernel
theorem dX11_voyages_45 : decode cX11_voyages 45 = .ok (.if_icmp .ge 69, 3) := by decide +kernel
theorem dX11_voyages_48 : decode cX11_voyages 48 = .ok (.lload_n 3, 1) := by decide +kernel
theorem dX11_voyages_49 : decode cX11_voyages 49 = .ok (.ldc2_w 237, 3) := by decide +kernel
theorem dX11_voyages_52 : decode cX11_voyages 52 = .ok (.lmul, 1) := by decide +kernel
theorem dX11_voyages_53 : decode cX11_voyages 53 = .ok (.ldc2_w 239, 3) := by decide +kernel
theorem dX11_voyages_56 : decode cX11_voyages 56 = .ok (.ladd, 1) := by decide +kernel
theorem dX11_voyages_57 : decode cX11_voyages 57 = .ok (.ldc2_w 241, 3) := by decide +kernel
theorem dX11_voyages_60 : decode cX11_voyages 60 = .ok (.lrem, 1) := by decide +kernel
theorem dX11_voyages_61 : decode cX11_voyages 61 = .ok (.lstore_n 3, 1) := by decide +kernel
theorem dX11_voyages_62 : decode cX11_voyages 62 = .ok (.lload_n 3, 1) := by decide +kernel
theorem dX11_voyages_63 : decode cX11_voyages 63 = .ok (.ldc2_w 243, 3) := by decide +kernel
theorem dX11_voyages_66 : decode cX11_voyages 66 = .ok (.ldiv, 1) := by decide +kernel
theorem dX11_voyages_67 : decode cX11_voyages 67 = .ok (.ldc2_w 245, 3) := by decide +kernel
theorem dX11_voyages_70 : decode cX11_voyages 70 = .ok (.lrem, 1) := by decide +kernel
theorem dX11_voyages_71 : decode cX11_voyages 71 = .ok (.l2i, 1) := by decide +kernel
theorem dX11_voyages_72 : decode cX11_voyages 72 = .ok (.istore 7, 2) := by decide +kernel
theorem dX11_voyages_74 : decode cX11_voyages 74 = .ok (.aload_n 0, 1) := by decide +kernel
theorem dX11_voyages_75 : decode cX11_voyages 75 = .ok (.getfield 40, 3) := by decide +kernel
theorem dX11_voyages_78 : decode cX11_voyages 78 = .ok (.aload_n 0, 1) := by decide +kernel
theorem dX11_voyages_79 : decode cX11_voyages 79 = .ok (.getfield 10, 3) := by decide +kernel
theorem dX11_voyages_82 : decode cX11_voyages 82 = .ok (.iload 5, 2) := by decide +kernel
theorem dX11_voyages_84 : decode cX11_voyages 84 = .ok (.iload 7, 2) := by decide +kernel
theorem dX11_voyages_86 : decode cX11_voyages 86 = .ok (.invokevirtual 184, 3) := by decide +kernel
theorem dX11_voyages_89 : decode cX11_voyages 89 = .ok (.istore 8, 2) := by decide +kernel
theorem dX11_voyages_91 : decode cX11_voyages 91 = .ok (.iload 8, 2) := by decide +kernel
theorem dX11_voyages_93 : decode cX11_voyages 93 = .ok (.iconst (-1), 1) := by decide +kernel
theorem dX11_voyages_94 : decode cX11_voyages 94 = .ok (.if_icmp .ne 5, 3) := by decide +kernel
theorem dX11_voyages_97 : decode cX11_voyages 97 = .ok (.iconst 0, 1) := by decide +kernel
theorem dX11_voyages_98 : decode cX11_voyages 98 = .ok (.ireturn, 1) := by decide +kernel
theorem dX11_voyages_99 : decode cX11_voyages 99 = .ok (.iload 5, 2) := by decide +kernel
theorem dX11_voyages_101 : decode cX11_voyages 101 = .ok (.iload 8, 2) := by decide +kernel
theorem dX11_voyages_103 : decode cX11_voyages 103 = .ok (.iconst (-1), 1) := by decide +kernel
theorem dX11_voyages_104 : decode cX11_voyages 104 = .ok (.ixor, 1) := by decide +kernel
theorem dX11_voyages_105 : decode cX11_voyages 105 = .ok (.iand, 1) := by decide +kernel
theorem dX11_voyages_106 : decode cX11_voyages 106 = .ok (.istore 5, 2) := by decide +kernel
theorem dX11_voyages_108 : decode cX11_voyages 108 = .ok (.iinc 6 1, 3) := by decide +kernel
theorem dX11_voyages_111 : decode cX11_voyages 111 = .ok (.goto (-69), 3) := by decide +kernel
theorem dX11_voyages_114 : decode cX11_voyages 114 = .ok (.aload_n 0, 1) := by decide +kernel
theorem dX11_voyages_115 : decode cX11_voyages 115 = .ok (.getfield 10, 3) := by decide +kernel
theorem dX11_voyages_118 : decode cX11_voyages 118 = .ok (.iload 5, 2) := by decide +kernel
theorem dX11_voyages_120 : decode cX11_voyages 120 = .ok (.iconst 4, 1) := by decide +kernel
theorem dX11_voyages_121 : decode cX11_voyages 121 = .ok (.invokevirtual 158, 3) := by decide +kernel
theorem dX11_voyages_124 : decode cX11_voyages 124 = .ok (.ireturn, 1) := by decide +kernel
theorem dX11_part_0 : decode cX11_part 0 = .ok (.iload_n 1, 1) := by decide +kernel
theorem dX11_part_1 : decode cX11_part 1 = .ok (.iconst 0, 1) := by decide +kernel
theorem dX11_part_2 : decode cX11_part 2 = .ok (.iconst 1, 1) := by decide +kernel
theorem dX11_part_3 : decode cX11_part 3 = .ok (.invokestatic 97, 3) := by decide +kernel
theorem dX11_part_6 : decode cX11_part 6 = .ok (.ifCond .ne 11, 3) := by decide +kernel
theorem dX11_part_9 : decode cX11_part 9 = .ok (.aload_n 0, 1) := by decide +kernel
theorem dX11_part_10 : decode cX11_part 10 = .ok (.bipush (-2), 2) := by decide +kernel
theorem dX11_part_12 : decode cX11_part 12 = .ok (.invokevirtual 71, 3) := by decide +kernel
theorem dX11_part_15 : decode cX11_part 15 = .ok (.i2l, 1) := by decide +kernel
theorem dX11_part_16 : decode cX11_part 16 = .ok (.lreturn, 1) := by decide +kernel
theorem dX11_part_17 : decode cX11_part 17 = .ok (.iload_n 1, 1) := by decide +kernel
theorem dX11_part_18 : decode cX11_part 18 = .ok (.ifCond .ne 13, 3) := by decide +kernel
theorem dX11_part_21 : decode cX11_part 21 = .ok (.aload_n 0, 1) := by decide +kernel
theorem dX11_part_22 : decode cX11_part 22 = .ok (.getfield 47, 3) := by decide +kernel
theorem dX11_part_25 : decode cX11_part 25 = .ok (.getfield 247, 3) := by decide +kernel
theorem dX11_part_28 : decode cX11_part 28 = .ok (.goto 10, 3) := by decide +kernel
theorem dX11_part_31 : decode cX11_part 31 = .ok (.aload_n 0, 1) := by decide +kernel
theorem dX11_part_32 : decode cX11_part 32 = .ok (.getfield 47, 3) := by decide +kernel
theorem dX11_part_35 : decode cX11_part 35 = .ok (.getfield 251, 3) := by decide +kernel
theorem dX11_part_38 : decode cX11_part 38 = .ok (.lreturn, 1) := by decide +kernel
theorem dX11_image_0 : decode cX11_image 0 = .ok (.iload_n 1, 1) := by decide +kernel
theorem dX11_image_1 : decode cX11_image 1 = .ok (.iconst 0, 1) := by decide +kernel
theorem dX11_image_2 : decode cX11_image 2 = .ok (.iconst 1, 1) := by decide +kernel
theorem dX11_image_3 : decode cX11_image 3 = .ok (.invokestatic 97, 3) := by decide +kernel
theorem dX11_image_6 : decode cX11_image 6 = .ok (.ifCond .ne 10, 3) := by decide +kernel
theorem dX11_image_9 : decode cX11_image 9 = .ok (.aload_n 0, 1) := by decide +kernel
theorem dX11_image_10 : decode cX11_image 10 = .ok (.bipush (-2), 2) := by decide +kernel
theorem dX11_image_12 : decode cX11_image 12 = .ok (.invokevirtual 71, 3) := by decide +kernel
theorem dX11_image_15 : decode cX11_image 15 = .ok (.ireturn, 1) := by decide +kernel
theorem dX11_image_16 : decode cX11_image 16 = .ok (.aload_n 0, 1) := by decide +kernel
theorem dX11_image_17 : decode cX11_image 17 = .ok (.getfield 19, 3) := by decide +kernel
theorem dX11_image_20 : decode cX11_image 20 = .ok (.iload_n 1, 1) := by decide +kernel
theorem dX11_image_21 : decode cX11_image 21 = .ok (.aaload, 1) := by decide +kernel
theorem dX11_image_22 : decode cX11_image 22 = .ok (.aload_n 0, 1) := by decide +kernel
theorem dX11_image_23 : decode cX11_image 23 = .ok (.getfield 10, 3) := by decide +kernel
theorem dX11_image_26 : decode cX11_image 26 = .ok (.invokevirtual 121, 3) := by decide +kernel
theorem dX11_image_29 : decode cX11_image 29 = .ok (.aload_n 0, 1) := by decide +kernel
theorem dX11_image_30 : decode cX11_image 30 = .ok (.dup, 1) := by decide +kernel
theorem dX11_image_31 : decode cX11_image 31 = .ok (.getfield 253, 3) := by decide +kernel
theorem dX11_image_34 : decode cX11_image 34 = .ok (.iconst 1, 1) := by decide +kernel
theorem dX11_image_35 : decode cX11_image 35 = .ok (.iload_n 1, 1) := by decide +kernel
theorem dX11_image_36 : decode cX11_image 36 = .ok (.ishl, 1) := by decide +kernel
theorem dX11_image_37 : decode cX11_image 37 = .ok (.ior, 1) := by decide +kernel
theorem dX11_image_38 : decode cX11_image 38 = .ok (.putfield 253, 3) := by decide +kernel
theorem dX11_image_41 : decode cX11_image 41 = .ok (.iconst 1, 1) := by decide +kernel
theorem dX11_image_42 : decode cX11_image 42 = .ok (.ireturn, 1) := by decide +kernel
theorem dX11_from_0 : decode cX11_from 0 = .ok (.iload_n 1, 1) := by decide +kernel
theorem dX11_from_1 : decode cX11_from 1 = .ok (.iconst 0, 1) := by decide +kernel
theorem dX11_from_2 : decode cX11_from 2 = .ok (.iconst 1, 1) := by decide +kernel
theorem dX11_from_3 : decode cX11_from 3 = .ok (.invokestatic 97, 3) := by decide +kernel
theorem dX11_from_6 : decode cX11_from 6 = .ok (.ifCond .ne 10, 3) := by decide +kernel
theorem dX11_from_9 : decode cX11_from 9 = .ok (.aload_n 0, 1) := by decide +kernel
theorem dX11_from_10 : decode cX11_from 10 = .ok (.bipush (-2), 2) := by decide +kernel
theorem dX11_from_12 : decode cX11_from 12 = .ok (.invokevirtual 71, 3) := by decide +kernel
theorem dX11_from_15 : decode cX11_from 15 = .ok (.ireturn, 1) := by decide +kernel
theorem dX11_from_16 : decode cX11_from 16 = .ok (.aload_n 0, 1) := by decide +kernel
theorem dX11_from_17 : decode cX11_from 17 = .ok (.getfield 253, 3) := by decide +kernel
theorem dX11_from_20 : decode cX11_from 20 = .ok (.iload_n 1, 1) := by decide +kernel
theorem dX11_from_21 : decode cX11_from 21 = .ok (.invokestatic 149, 3) := by decide +kernel
theorem dX11_from_24 : decode cX11_from 24 = .ok (.ifCond .ne 10, 3) := by decide +kernel
theorem dX11_from_27 : decode cX11_from 27 = .ok (.aload_n 0, 1) := by decide +kernel
theorem dX11_from_28 : decode cX11_from 28 = .ok (.bipush (-3), 2) := by decide +kernel
theorem dX11_from_30 : decode cX11_from 30 = .ok (.invokevirtual 71, 3) := by decide +kernel
theorem dX11_from_33 : decode cX11_from 33 = .ok (.ireturn, 1) := by decide +kernel
theorem dX11_from_34 : decode cX11_from 34 = .ok (.aload_n 0, 1) := by decide +kernel
theorem dX11_from_35 : decode cX11_from 35 = .ok (.getfield 10, 3) := by decide +kernel
theorem dX11_from_38 : decode cX11_from 38 = .ok (.aload_n 0, 1) := by decide +kernel
theorem dX11_from_39 : decode cX11_from 39 = .ok (.getfield 19, 3) := by decide +kernel
theorem dX11_from_42 : decode cX11_from 42 = .ok (.iload_n 1, 1) := by decide +kernel
theorem dX11_from_43 : decode cX11_from 43 = .ok (.aaload, 1) := by decide +kernel
theorem dX11_from_44 : decode cX11_from 44 = .ok (.invokevirtual 121, 3) := by decide +kernel
theorem dX11_from_47 : decode cX11_from 47 = .ok (.iconst 1, 1) := by decide +kernel
theorem dX11_from_48 : decode cX11_from 48 = .ok (.ireturn, 1) := by decide +kernel
theorem dX11_status_0 : decode cX11_status 0 = .ok (.iload_n 1, 1) := by decide +kernel
theorem dX11_status_1 : decode cX11_status 1 = .ok (.tableswitch 42 0 2 #[27, 32, 37], 27) := by decide +kernel
theorem dX11_status_28 : decode cX11_status 28 = .ok (.aload_n 0, 1) := by decide +kernel
theorem dX11_status_29 : decode cX11_status 29 = .ok (.getfield 256, 3) := by decide +kernel
theorem dX11_status_32 : decode cX11_status 32 = .ok (.ireturn, 1) := by decide +kernel
theorem dX11_status_33 : decode cX11_status 33 = .ok (.aload_n 0, 1) := by decide +kernel
theorem dX11_status_34 : decode cX11_status 34 = .ok (.getfield 259, 3) := by decide +kernel
theorem dX11_status_37 : decode cX11_status 37 = .ok (.ireturn, 1) := by decide +kernel
theorem dX11_status_38 : decode cX11_status 38 = .ok (.aload_n 0, 1) := by decide +kernel
theorem dX11_status_39 : decode cX11_status 39 = .ok (.getfield 262, 3) := by decide +kernel
theorem dX11_status_42 : decode cX11_status 42 = .ok (.ireturn, 1) := by decide +kernel
theorem dX11_status_43 : decode cX11_status 43 = .ok (.aload_n 0, 1) := by decide +kernel
theorem dX11_status_44 : decode cX11_status 44 = .ok (.bipush (-2), 2) := by decide +kernel
theorem dX11_status_46 : decode cX11_status 46 = .ok (.invokevirtual 71, 3) := by decide +kernel
theorem dX11_status_49 : decode cX11_status 49 = .ok (.pop, 1) := by decide +kernel
theorem dX11_status_50 : decode cX11_status 50 = .ok (.iconst (-1), 1) := by decide +kernel
theorem dX11_status_51 : decode cX11_status 51 = .ok (.ireturn, 1) := by decide +kernel
theorem dX11_count_0 : decode cX11_count 0 = .ok (.iload_n 1, 1) := by decide +kernel
theorem dX11_count_1 : decode cX11_count 1 = .ok (.iconst 0, 1) := by decide +kernel
theorem dX11_count_2 : decode cX11_count 2 = .ok (.bipush 6, 2) := by decide +kernel
theorem dX11_count_4 : decode cX11_count 4 = .ok (.invokestatic 97, 3) := by decide +kernel
theorem dX11_count_7 : decode cX11_count 7 = .ok (.ifCond .eq 11, 3) := by decide +kernel
theorem dX11_count_10 : decode cX11_count 10 = .ok (.aload_n 0, 1) := by decide +kernel
theorem dX11_count_11 : decode cX11_count 11 = .ok (.iload_n 1, 1) := by decide +kernel
theorem dX11_count_12 : decode cX11_count 12 = .ok (.invokevirtual 265, 3) := by decide +kernel
theorem dX11_count_15 : decode cX11_count 15 = .ok (.goto 9, 3) := by decide +kernel
theorem dX11_count_18 : decode cX11_count 18 = .ok (.aload_n 0, 1) := by decide +kernel
theorem dX11_count_19 : decode cX11_count 19 = .ok (.bipush (-2), 2) := by decide +kernel
theorem dX11_count_21 : decode cX11_count 21 = .ok (.invokevirtual 71, 3) := by decide +kernel
theorem dX11_count_24 : decode cX11_count 24 = .ok (.ireturn, 1) := by decide +kernel
theorem dX11_digest_0 : decode cX11_digest 0 = .ok (.ldc2_w 268, 3) := by decide +kernel
theorem dX11_digest_3 : decode cX11_digest 3 = .ok (.lstore_n 1, 1) := by decide +kernel
theorem dX11_digest_4 : decode cX11_digest 4 = .ok (.iconst 0, 1) := by decide +kernel
theorem dX11_digest_5 : decode cX11_digest 5 = .ok (.istore_n 3, 1) := by decide +kernel
theorem dX11_digest_6 : decode cX11_digest 6 = .ok (.iload_n 3, 1) := by decide +kernel
theorem dX11_digest_7 : decode cX11_digest 7 = .ok (.bipush 7, 2) := by decide +kernel
theorem dX11_digest_9 : decode cX11_digest 9 = .ok (.if_icmp .ge 22, 3) := by decide +kernel
theorem dX11_digest_12 : decode cX11_digest 12 = .ok (.ldc2_w 270, 3) := by decide +kernel
theorem dX11_digest_15 : decode cX11_digest 15 = .ok (.lload_n 1, 1) := by decide +kernel
theorem dX11_digest_16 : decode cX11_digest 16 = .ok (.lmul, 1) := by decide +kernel
theorem dX11_digest_17 : decode cX11_digest 17 = .ok (.aload_n 0, 1) := by decide +kernel
theorem dX11_digest_18 : decode cX11_digest 18 = .ok (.iload_n 3, 1) := by decide +kernel
theorem dX11_digest_19 : decode cX11_digest 19 = .ok (.invokevirtual 265, 3) := by decide +kernel
theorem dX11_digest_22 : decode cX11_digest 22 = .ok (.i2l, 1) := by decide +kernel
theorem dX11_digest_23 : decode cX11_digest 23 = .ok (.ladd, 1) := by decide +kernel
theorem dX11_digest_24 : decode cX11_digest 24 = .ok (.lstore_n 1, 1) := by decide +kernel
theorem dX11_digest_25 : decode cX11_digest 25 = .ok (.iinc 3 1, 3) := by decide +kernel
theorem dX11_digest_28 : decode cX11_digest 28 = .ok (.goto (-22), 3) := by decide +kernel
theorem dX11_digest_31 : decode cX11_digest 31 = .ok (.iconst 0, 1) := by decide +kernel
theorem dX11_digest_32 : decode cX11_digest 32 = .ok (.istore_n 3, 1) := by decide +kernel
theorem dX11_digest_33 : decode cX11_digest 33 = .ok (.iload_n 3, 1) := by decide +kernel
theorem dX11_digest_34 : decode cX11_digest 34 = .ok (.aload_n 0, 1) := by decide +kernel
theorem dX11_digest_35 : decode cX11_digest 35 = .ok (.getfield 10, 3) := by decide +kernel
theorem dX11_digest_38 : decode cX11_digest 38 = .ok (.getfield 75, 3) := by decide +kernel
theorem dX11_digest_41 : decode cX11_digest 41 = .ok (.if_icmp .ge 70, 3) := by decide +kernel
theorem dX11_digest_44 : decode cX11_digest 44 = .ok (.iconst 0, 1) := by decide +kernel
theorem dX11_digest_45 : decode cX11_digest 45 = .ok (.istore 4, 2) := by decide +kernel
theorem dX11_digest_47 : decode cX11_digest 47 = .ok (.iload 4, 2) := by decide +kernel
theorem dX11_digest_49 : decode cX11_digest 49 = .ok (.bipush 6, 2) := by decide +kernel
theorem dX11_digest_51 : decode cX11_digest 51 = .ok (.if_icmp .ge 27, 3) := by decide +kernel
theorem dX11_digest_54 : decode cX11_digest 54 = .ok (.ldc2_w 270, 3) := by decide +kernel
theorem dX11_digest_57 : decode cX11_digest 57 = .ok (.lload_n 1, 1) := by decide +kernel
theorem dX11_digest_58 : decode cX11_digest 58 = .ok (.lmul, 1) := by decide +kernel
theorem dX11_digest_59 : decode cX11_digest 59 = .ok (.aload_n 0, 1) := by decide +kernel
theorem dX11_digest_60 : decode cX11_digest 60 = .ok (.getfield 10, 3) := by decide +kernel
theorem dX11_digest_63 : decode cX11_digest 63 = .ok (.iload_n 3, 1) := by decide +kernel
theorem dX11_digest_64 : decode cX11_digest 64 = .ok (.iload 4, 2) := by decide +kernel
theorem dX11_digest_66 : decode cX11_digest 66 = .ok (.invokevirtual 101, 3) := by decide +kernel
theorem dX11_digest_69 : decode cX11_digest 69 = .ok (.i2l, 1) := by decide +kernel
theorem dX11_digest_70 : decode cX11_digest 70 = .ok (.ladd, 1) := by decide +kernel
theorem dX11_digest_71 : decode cX11_digest 71 = .ok (.lstore_n 1, 1) := by decide +kernel
theorem dX11_digest_72 : decode cX11_digest 72 = .ok (.iinc 4 1, 3) := by decide +kernel
theorem dX11_digest_75 : decode cX11_digest 75 = .ok (.goto (-28), 3) := by decide +kernel
theorem dX11_digest_78 : decode cX11_digest 78 = .ok (.ldc2_w 270, 3) := by decide +kernel
theorem dX11_digest_81 : decode cX11_digest 81 = .ok (.lload_n 1, 1) := by decide +kernel
theorem dX11_digest_82 : decode cX11_digest 82 = .ok (.lmul, 1) := by decide +kernel
theorem dX11_digest_83 : decode cX11_digest 83 = .ok (.aload_n 0, 1) := by decide +kernel
theorem dX11_digest_84 : decode cX11_digest 84 = .ok (.getfield 10, 3) := by decide +kernel
theorem dX11_digest_87 : decode cX11_digest 87 = .ok (.getfield 125, 3) := by decide +kernel
theorem dX11_digest_90 : decode cX11_digest 90 = .ok (.iload_n 3, 1) := by decide +kernel
theorem dX11_digest_91 : decode cX11_digest 91 = .ok (.invokestatic 149, 3) := by decide +kernel
theorem dX11_digest_94 : decode cX11_digest 94 = .ok (.ifCond .eq 7, 3) := by decide +kernel
theorem dX11_digest_97 : decode cX11_digest 97 = .ok (.iconst 1, 1) := by decide +kernel
theorem dX11_digest_98 : decode cX11_digest 98 = .ok (.goto 4, 3) := by decide +kernel
theorem dX11_digest_101 : decode cX11_digest 101 = .ok (.iconst 0, 1) := by decide +kernel
theorem dX11_digest_102 : decode cX11_digest 102 = .ok (.i2l, 1) := by decide +kernel
theorem dX11_digest_103 : decode cX11_digest 103 = .ok (.ladd, 1) := by decide +kernel
theorem dX11_digest_104 : decode cX11_digest 104 = .ok (.lstore_n 1, 1) := by decide +kernel
theorem dX11_digest_105 : decode cX11_digest 105 = .ok (.iinc 3 1, 3) := by decide +kernel
theorem dX11_digest_108 : decode cX11_digest 108 = .ok (.goto (-75), 3) := by decide +kernel
theorem dX11_digest_111 : decode cX11_digest 111 = .ok (.iconst 0, 1) := by decide +kernel
theorem dX11_digest_112 : decode cX11_digest 112 = .ok (.istore_n 3, 1) := by decide +kernel
theorem dX11_digest_113 : decode cX11_digest 113 = .ok (.iload_n 3, 1) := by decide +kernel
theorem dX11_digest_114 : decode cX11_digest 114 = .ok (.aload_n 0, 1) := by decide +kernel
theorem dX11_digest_115 : decode cX11_digest 115 = .ok (.getfield 10, 3) := by decide +kernel
theorem dX11_digest_118 : decode cX11_digest 118 = .ok (.getfield 213, 3) := by decide +kernel
theorem dX11_digest_121 : decode cX11_digest 121 = .ok (.if_icmp .ge 42, 3) := by decide +kernel
theorem dX11_digest_124 : decode cX11_digest 124 = .ok (.iconst 0, 1) := by decide +kernel
theorem dX11_digest_125 : decode cX11_digest 125 = .ok (.istore 4, 2) := by decide +kernel
theorem dX11_digest_127 : decode cX11_digest 127 = .ok (.iload 4, 2) := by decide +kernel
theorem dX11_digest_129 : decode cX11_digest 129 = .ok (.iconst 3, 1) := by decide +kernel
theorem dX11_digest_130 : decode cX11_digest 130 = .ok (.if_icmp .ge 27, 3) := by decide +kernel
theorem dX11_digest_133 : decode cX11_digest 133 = .ok (.ldc2_w 270, 3) := by decide +kernel
theorem dX11_digest_136 : decode cX11_digest 136 = .ok (.lload_n 1, 1) := by decide +kernel
theorem dX11_digest_137 : decode cX11_digest 137 = .ok (.lmul, 1) := by decide +kernel
theorem dX11_digest_138 : decode cX11_digest 138 = .ok (.aload_n 0, 1) := by decide +kernel
theorem dX11_digest_139 : decode cX11_digest 139 = .ok (.getfield 10, 3) := by decide +kernel
theorem dX11_digest_142 : decode cX11_digest 142 = .ok (.iload_n 3, 1) := by decide +kernel
theorem dX11_digest_143 : decode cX11_digest 143 = .ok (.iload 4, 2) := by decide +kernel
theorem dX11_digest_145 : decode cX11_digest 145 = .ok (.invokevirtual 272, 3) := by decide +kernel
theorem dX11_digest_148 : decode cX11_digest 148 = .ok (.i2l, 1) := by decide +kernel
theorem dX11_digest_149 : decode cX11_digest 149 = .ok (.ladd, 1) := by decide +kernel
theorem dX11_digest_150 : decode cX11_digest 150 = .ok (.lstore_n 1, 1) := by decide +kernel
theorem dX11_digest_151 : decode cX11_digest 151 = .ok (.iinc 4 1, 3) := by decide +kernel
theorem dX11_digest_154 : decode cX11_digest 154 = .ok (.goto (-27), 3) := by decide +kernel
theorem dX11_digest_157 : decode cX11_digest 157 = .ok (.iinc 3 1, 3) := by decide +kernel
theorem dX11_digest_160 : decode cX11_digest 160 = .ok (.goto (-47), 3) := by decide +kernel
theorem dX11_digest_163 : decode cX11_digest 163 = .ok (.ldc2_w 270, 3) := by decide +kernel
theorem dX11_digest_166 : decode cX11_digest 166 = .ok (.lload_n 1, 1) := by decide +kernel
theorem dX11_digest_167 : decode cX11_digest 167 = .ok (.lmul, 1) := by decide +kernel
theorem dX11_digest_168 : decode cX11_digest 168 = .ok (.aload_n 0, 1) := by decide +kernel
theorem dX11_digest_169 : decode cX11_digest 169 = .ok (.getfield 47, 3) := by decide +kernel
theorem dX11_digest_172 : decode cX11_digest 172 = .ok (.getfield 247, 3) := by decide +kernel
theorem dX11_digest_175 : decode cX11_digest 175 = .ok (.ladd, 1) := by decide +kernel
theorem dX11_digest_176 : decode cX11_digest 176 = .ok (.lstore_n 1, 1) := by decide +kernel
theorem dX11_digest_177 : decode cX11_digest 177 = .ok (.ldc2_w 270, 3) := by decide +kernel
theorem dX11_digest_180 : decode cX11_digest 180 = .ok (.lload_n 1, 1) := by decide +kernel
theorem dX11_digest_181 : decode cX11_digest 181 = .ok (.lmul, 1) := by decide +kernel
theorem dX11_digest_182 : decode cX11_digest 182 = .ok (.aload_n 0, 1) := by decide +kernel
theorem dX11_digest_183 : decode cX11_digest 183 = .ok (.getfield 47, 3) := by decide +kernel
theorem dX11_digest_186 : decode cX11_digest 186 = .ok (.getfield 251, 3) := by decide +kernel
theorem dX11_digest_189 : decode cX11_digest 189 = .ok (.ladd, 1) := by decide +kernel
theorem dX11_digest_190 : decode cX11_digest 190 = .ok (.lreturn, 1) := by decide +kernel
theorem dX11_refuse_0 : decode cX11_refuse 0 = .ok (.iload_n 1, 1) := by decide +kernel
theorem dX11_refuse_1 : decode cX11_refuse 1 = .ok (.bipush (-2), 2) := by decide +kernel
theorem dX11_refuse_3 : decode cX11_refuse 3 = .ok (.if_icmp .ne 16, 3) := by decide +kernel
theorem dX11_refuse_6 : decode cX11_refuse 6 = .ok (.aload_n 0, 1) := by decide +kernel
theorem dX11_refuse_7 : decode cX11_refuse 7 = .ok (.dup, 1) := by decide +kernel
theorem dX11_refuse_8 : decode cX11_refuse 8 = .ok (.getfield 256, 3) := by decide +kernel
theorem dX11_refuse_11 : decode cX11_refuse 11 = .ok (.iconst 1, 1) := by decide +kernel
theorem dX11_refuse_12 : decode cX11_refuse 12 = .ok (.iadd, 1) := by decide +kernel
theorem dX11_refuse_13 : decode cX11_refuse 13 = .ok (.putfield 256, 3) := by decide +kernel
theorem dX11_refuse_16 : decode cX11_refuse 16 = .ok (.goto 32, 3) := by decide +kernel
theorem dX11_refuse_19 : decode cX11_refuse 19 = .ok (.iload_n 1, 1) := by decide +kernel
theorem dX11_refuse_20 : decode cX11_refuse 20 = .ok (.bipush (-3), 2) := by decide +kernel
theorem dX11_refuse_22 : decode cX11_refuse 22 = .ok (.if_icmp .ne 16, 3) := by decide +kernel
theorem dX11_refuse_25 : decode cX11_refuse 25 = .ok (.aload_n 0, 1) := by decide +kernel
theorem dX11_refuse_26 : decode cX11_refuse 26 = .ok (.dup, 1) := by decide +kernel
theorem dX11_refuse_27 : decode cX11_refuse 27 = .ok (.getfield 259, 3) := by decide +kernel
theorem dX11_refuse_30 : decode cX11_refuse 30 = .ok (.iconst 1, 1) := by decide +kernel
theorem dX11_refuse_31 : decode cX11_refuse 31 = .ok (.iadd, 1) := by decide +kernel
theorem dX11_refuse_32 : decode cX11_refuse 32 = .ok (.putfield 259, 3) := by decide +kernel
theorem dX11_refuse_35 : decode cX11_refuse 35 = .ok (.goto 13, 3) := by decide +kernel
theorem dX11_refuse_38 : decode cX11_refuse 38 = .ok (.aload_n 0, 1) := by decide +kernel
theorem dX11_refuse_39 : decode cX11_refuse 39 = .ok (.dup, 1) := by decide +kernel
theorem dX11_refuse_40 : decode cX11_refuse 40 = .ok (.getfield 262, 3) := by decide +kernel
theorem dX11_refuse_43 : decode cX11_refuse 43 = .ok (.iconst 1, 1) := by decide +kernel
theorem dX11_refuse_44 : decode cX11_refuse 44 = .ok (.iadd, 1) := by decide +kernel
theorem dX11_refuse_45 : decode cX11_refuse 45 = .ok (.putfield 262, 3) := by decide +kernel
theorem dX11_refuse_48 : decode cX11_refuse 48 = .ok (.iload_n 1, 1) := by decide +kernel
theorem dX11_refuse_49 : decode cX11_refuse 49 = .ok (.ireturn, 1) := by decide +kernel
theorem dX11_howMany_0 : decode cX11_howMany 0 = .ok (.iload_n 1, 1) := by decide +kernel
theorem dX11_howMany_1 : decode cX11_howMany 1 = .ok (.tableswitch 90 0 5 #[39, 47, 58, 66, 74, 82], 39) := by decide +kernel
theorem dX11_howMany_40 : decode cX11_howMany 40 = .ok (.aload_n 0, 1) := by decide +kernel
theorem dX11_howMany_41 : decode cX11_howMany 41 = .ok (.getfield 10, 3) := by decide +kernel
theorem dX11_howMany_44 : decode cX11_howMany 44 = .ok (.getfield 75, 3) := by decide +kernel
theorem dX11_howMany_47 : decode cX11_howMany 47 = .ok (.ireturn, 1) := by decide +kernel
theorem dX11_howMany_48 : decode cX11_howMany 48 = .ok (.aload_n 0, 1) := by decide +kernel
theorem dX11_howMany_49 : decode cX11_howMany 49 = .ok (.getfield 10, 3) := by decide +kernel
theorem dX11_howMany_52 : decode cX11_howMany 52 = .ok (.getfield 125, 3) := by decide +kernel
theorem dX11_howMany_55 : decode cX11_howMany 55 = .ok (.invokestatic 144, 3) := by decide +kernel
theorem dX11_howMany_58 : decode cX11_howMany 58 = .ok (.ireturn, 1) := by decide +kernel
theorem dX11_howMany_59 : decode cX11_howMany 59 = .ok (.aload_n 0, 1) := by decide +kernel
theorem dX11_howMany_60 : decode cX11_howMany 60 = .ok (.getfield 10, 3) := by decide +kernel
theorem dX11_howMany_63 : decode cX11_howMany 63 = .ok (.getfield 275, 3) := by decide +kernel
theorem dX11_howMany_66 : decode cX11_howMany 66 = .ok (.ireturn, 1) := by decide +kernel
theorem dX11_howMany_67 : decode cX11_howMany 67 = .ok (.aload_n 0, 1) := by decide +kernel
theorem dX11_howMany_68 : decode cX11_howMany 68 = .ok (.getfield 10, 3) := by decide +kernel
theorem dX11_howMany_71 : decode cX11_howMany 71 = .ok (.getfield 230, 3) := by decide +kernel
theorem dX11_howMany_74 : decode cX11_howMany 74 = .ok (.ireturn, 1) := by decide +kernel
theorem dX11_howMany_75 : decode cX11_howMany 75 = .ok (.aload_n 0, 1) := by decide +kernel
theorem dX11_howMany_76 : decode cX11_howMany 76 = .ok (.getfield 10, 3) := by decide +kernel
theorem dX11_howMany_79 : decode cX11_howMany 79 = .ok (.getfield 213, 3) := by decide +kernel
theorem dX11_howMany_82 : decode cX11_howMany 82 = .ok (.ireturn, 1) := by decide +kernel
theorem dX11_howMany_83 : decode cX11_howMany 83 = .ok (.aload_n 0, 1) := by decide +kernel
theorem dX11_howMany_84 : decode cX11_howMany 84 = .ok (.getfield 10, 3) := by decide +kernel
theorem dX11_howMany_87 : decode cX11_howMany 87 = .ok (.getfield 118, 3) := by decide +kernel
theorem dX11_howMany_90 : decode cX11_howMany 90 = .ok (.ireturn, 1) := by decide +kernel
theorem dX11_howMany_91 : decode cX11_howMany 91 = .ok (.aload_n 0, 1) := by decide +kernel
theorem dX11_howMany_92 : decode cX11_howMany 92 = .ok (.getfield 26, 3) := by decide +kernel
theorem dX11_howMany_95 : decode cX11_howMany 95 = .ok (.getfield 111, 3) := by decide +kernel
theorem dX11_howMany_98 : decode cX11_howMany 98 = .ok (.ireturn, 1) := by decide +kernel
theorem dX11_inOrder_0 : decode cX11_inOrder 0 = .ok (.iload_n 2, 1) := by decide +kernel
theorem dX11_inOrder_1 : decode cX11_inOrder 1 = .ok (.iload_n 1, 1) := by decide +kernel
theorem dX11_inOrder_2 : decode cX11_inOrder 2 = .ok (.invokestatic 144, 3) := by decide +kernel
theorem dX11_inOrder_5 : decode cX11_inOrder 5 = .ok (.if_icmp .lt 6, 3) := by decide +kernel
theorem dX11_inOrder_8 : decode cX11_inOrder 8 = .ok (.bipush (-5), 2) := by decide +kernel
theorem dX11_inOrder_10 : decode cX11_inOrder 10 = .ok (.ireturn, 1) := by decide +kernel
theorem dX11_inOrder_11 : decode cX11_inOrder 11 = .ok (.aload_n 0, 1) := by decide +kernel
theorem dX11_inOrder_12 : decode cX11_inOrder 12 = .ok (.getfield 10, 3) := by decide +kernel
theorem dX11_inOrder_15 : decode cX11_inOrder 15 = .ok (.getfield 125, 3) := by decide +kernel
theorem dX11_inOrder_18 : decode cX11_inOrder 18 = .ok (.istore_n 3, 1) := by decide +kernel
theorem dX11_inOrder_19 : decode cX11_inOrder 19 = .ok (.aload_n 0, 1) := by decide +kernel
theorem dX11_inOrder_20 : decode cX11_inOrder 20 = .ok (.getfield 10, 3) := by decide +kernel
theorem dX11_inOrder_23 : decode cX11_inOrder 23 = .ok (.iload_n 1, 1) := by decide +kernel
theorem dX11_inOrder_24 : decode cX11_inOrder 24 = .ok (.iload_n 3, 1) := by decide +kernel
theorem dX11_inOrder_25 : decode cX11_inOrder 25 = .ok (.invokevirtual 278, 3) := by decide +kernel
theorem dX11_inOrder_28 : decode cX11_inOrder 28 = .ok (.istore 4, 2) := by decide +kernel
theorem dX11_inOrder_30 : decode cX11_inOrder 30 = .ok (.iconst 0, 1) := by decide +kernel
theorem dX11_inOrder_31 : decode cX11_inOrder 31 = .ok (.istore 5, 2) := by decide +kernel
theorem dX11_inOrder_33 : decode cX11_inOrder 33 = .ok (.iload 5, 2) := by decide +kernel
theorem dX11_inOrder_35 : decode cX11_inOrder 35 = .ok (.iload_n 2, 1) := by decide +kernel
theorem dX11_inOrder_36 : decode cX11_inOrder 36 = .ok (.if_icmp .ge 35, 3) := by decide +kernel
theorem dX11_inOrder_39 : decode cX11_inOrder 39 = .ok (.iload 4, 2) := by decide +kernel
theorem dX11_inOrder_41 : decode cX11_inOrder 41 = .ok (.iconst (-1), 1) := by decide +kernel
theorem dX11_inOrder_42 : decode cX11_inOrder 42 = .ok (.if_icmp .eq 29, 3) := by decide +kernel
theorem dX11_inOrder_45 : decode cX11_inOrder 45 = .ok (.iload_n 3, 1) := by decide +kernel
theorem dX11_inOrder_46 : decode cX11_inOrder 46 = .ok (.iconst 1, 1) := by decide +kernel
theorem dX11_inOrder_47 : decode cX11_inOrder 47 = .ok (.iload 4, 2) := by decide +kernel
theorem dX11_inOrder_49 : decode cX11_inOrder 49 = .ok (.ishl, 1) := by decide +kernel
theorem dX11_inOrder_50 : decode cX11_inOrder 50 = .ok (.iconst (-1), 1) := by decide +kernel
theorem dX11_inOrder_51 : decode cX11_inOrder 51 = .ok (.ixor, 1) := by decide +kernel
theorem dX11_inOrder_52 : decode cX11_inOrder 52 = .ok (.iand, 1) := by decide +kernel
theorem dX11_inOrder_53 : decode cX11_inOrder 53 = .ok (.istore_n 3, 1) := by decide +kernel
theorem dX11_inOrder_54 : decode cX11_inOrder 54 = .ok (.aload_n 0, 1) := by decide +kernel
theorem dX11_inOrder_55 : decode cX11_inOrder 55 = .ok (.getfield 10, 3) := by decide +kernel
theorem dX11_inOrder_58 : decode cX11_inOrder 58 = .ok (.iload_n 1, 1) := by decide +kernel
theorem dX11_inOrder_59 : decode cX11_inOrder 59 = .ok (.iload_n 3, 1) := by decide +kernel
theorem dX11_inOrder_60 : decode cX11_inOrder 60 = .ok (.invokevirtual 278, 3) := by decide +kernel
theorem dX11_inOrder_63 : decode cX11_inOrder 63 = .ok (.istore 4, 2) := by decide +kernel
theorem dX11_inOrder_65 : decode cX11_inOrder 65 = .ok (.iinc 5 1, 3) := by decide +kernel
theorem dX11_inOrder_68 : decode cX11_inOrder 68 = .ok (.goto (-35), 3) := by decide +kernel
theorem dX11_inOrder_71 : decode cX11_inOrder 71 = .ok (.iload 4, 2) := by decide +kernel
theorem dX11_inOrder_73 : decode cX11_inOrder 73 = .ok (.ireturn, 1) := by decide +kernel
theorem dX11_isStorm_0 : decode cX11_isStorm 0 = .ok (.iload_n 0, 1) := by decide +kernel
theorem dX11_isStorm_1 : decode cX11_isStorm 1 = .ok (.iconst 0, 1) := by decide +kernel
theorem dX11_isStorm_2 : decode cX11_isStorm 2 = .ok (.sipush 200, 3) := by decide +kernel
theorem dX11_isStorm_5 : decode cX11_isStorm 5 = .ok (.invokestatic 97, 3) := by decide +kernel
theorem dX11_isStorm_8 : decode cX11_isStorm 8 = .ok (.ireturn, 1) := by decide +kernel
theorem dX11_within_0 : decode cX11_within 0 = .ok (.iload_n 0, 1) := by decide +kernel
theorem dX11_within_1 : decode cX11_within 1 = .ok (.iload_n 1, 1) := by decide +kernel
theorem dX11_within_2 : decode cX11_within 2 = .ok (.if_icmp .lt 12, 3) := by decide +kernel
theorem dX11_within_5 : decode cX11_within 5 = .ok (.iload_n 0, 1) := by decide +kernel
theorem dX11_within_6 : decode cX11_within 6 = .ok (.iload_n 2, 1) := by decide +kernel
theorem dX11_within_7 : decode cX11_within 7 = .ok (.if_icmp .gt 7, 3) := by decide +kernel
theorem dX11_within_10 : decode cX11_within 10 = .ok (.iconst 1, 1) := by decide +kernel
theorem dX11_within_11 : decode cX11_within 11 = .ok (.goto 4, 3) := by decide +kernel
theorem dX11_within_14 : decode cX11_within 14 = .ok (.iconst 0, 1) := by decide +kernel
theorem dX11_within_15 : decode cX11_within 15 = .ok (.ireturn, 1) := by decide +kernel
theorem dX11_allWithin_0 : decode cX11_allWithin 0 = .ok (.aload_n 0, 1) := by decide +kernel
theorem dX11_allWithin_1 : decode cX11_allWithin 1 = .ok (.arraylength, 1) := by decide +kernel
theorem dX11_allWithin_2 : decode cX11_allWithin 2 = .ok (.aload_n 1, 1) := by decide +kernel
theorem dX11_allWithin_3 : decode cX11_allWithin 3 = .ok (.arraylength, 1) := by decide +kernel
theorem dX11_allWithin_4 : decode cX11_allWithin 4 = .ok (.if_icmp .ne 10, 3) := by decide +kernel
theorem dX11_allWithin_7 : decode cX11_allWithin 7 = .ok (.aload_n 0, 1) := by decide +kernel
theorem dX11_allWithin_8 : decode cX11_allWithin 8 = .ok (.arraylength, 1) := by decide +kernel
theorem dX11_allWithin_9 : decode cX11_allWithin 9 = .ok (.aload_n 2, 1) := by decide +kernel
theorem dX11_allWithin_10 : decode cX11_allWithin 10 = .ok (.arraylength, 1) := by decide +kernel
theorem dX11_allWithin_11 : decode cX11_allWithin 11 = .ok (.if_icmp .eq 5, 3) := by decide +kernel
theorem dX11_allWithin_14 : decode cX11_allWithin 14 = .ok (.iconst 0, 1) := by decide +kernel
theorem dX11_allWithin_15 : decode cX11_allWithin 15 = .ok (.ireturn, 1) := by decide +kernel
theorem dX11_allWithin_16 : decode cX11_allWithin 16 = .ok (.iconst 0, 1) := by decide +kernel
theorem dX11_allWithin_17 : decode cX11_allWithin 17 = .ok (.istore_n 3, 1) := by decide +kernel
theorem dX11_allWithin_18 : decode cX11_allWithin 18 = .ok (.iload_n 3, 1) := by decide +kernel
theorem dX11_allWithin_19 : decode cX11_allWithin 19 = .ok (.aload_n 0, 1) := by decide +kernel
theorem dX11_allWithin_20 : decode cX11_allWithin 20 = .ok (.arraylength, 1) := by decide +kernel
theorem dX11_allWithin_21 : decode cX11_allWithin 21 = .ok (.if_icmp .ge 26, 3) := by decide +kernel
theorem dX11_allWithin_24 : decode cX11_allWithin 24 = .ok (.aload_n 0, 1) := by decide +kernel
theorem dX11_allWithin_25 : decode cX11_allWithin 25 = .ok (.iload_n 3, 1) := by decide +kernel
theorem dX11_allWithin_26 : decode cX11_allWithin 26 = .ok (.iaload, 1) := by decide +kernel
theorem dX11_allWithin_27 : decode cX11_allWithin 27 = .ok (.aload_n 1, 1) := by decide +kernel
theorem dX11_allWithin_28 : decode cX11_allWithin 28 = .ok (.iload_n 3, 1) := by decide +kernel
theorem dX11_allWithin_29 : decode cX11_allWithin 29 = .ok (.iaload, 1) := by decide +kernel
theorem dX11_allWithin_30 : decode cX11_allWithin 30 = .ok (.aload_n 2, 1) := by decide +kernel
theorem dX11_allWithin_31 : decode cX11_allWithin 31 = .ok (.iload_n 3, 1) := by decide +kernel
theorem dX11_allWithin_32 : decode cX11_allWithin 32 = .ok (.iaload, 1) := by decide +kernel
theorem dX11_allWithin_33 : decode cX11_allWithin 33 = .ok (.invokestatic 97, 3) := by decide +kernel
theorem dX11_allWithin_36 : decode cX11_allWithin 36 = .ok (.ifCond .ne 5, 3) := by decide +kernel
theorem dX11_allWithin_39 : decode cX11_allWithin 39 = .ok (.iconst 0, 1) := by decide +kernel
theorem dX11_allWithin_40 : decode cX11_allWithin 40 = .ok (.ireturn, 1) := by decide +kernel
theorem dX11_allWithin_41 : decode cX11_allWithin 41 = .ok (.iinc 3 1, 3) := by decide +kernel
theorem dX11_allWithin_44 : decode cX11_allWithin 44 = .ok (.goto (-26), 3) := by decide +kernel
theorem dX11_allWithin_47 : decode cX11_allWithin 47 = .ok (.iconst 1, 1) := by decide +kernel
theorem dX11_allWithin_48 : decode cX11_allWithin 48 = .ok (.ireturn, 1) := by decide +kernel
theorem dX11_isIn_0 : decode cX11_isIn 0 = .ok (.iload_n 0, 1) := by decide +kernel
theorem dX11_isIn_1 : decode cX11_isIn 1 = .ok (.iload_n 1, 1) := by decide +kernel
theorem dX11_isIn_2 : decode cX11_isIn 2 = .ok (.ishr, 1) := by decide +kernel
theorem dX11_isIn_3 : decode cX11_isIn 3 = .ok (.iconst 1, 1) := by decide +kernel
theorem dX11_isIn_4 : decode cX11_isIn 4 = .ok (.iand, 1) := by decide +kernel
theorem dX11_isIn_5 : decode cX11_isIn 5 = .ok (.iconst 1, 1) := by decide +kernel
theorem dX11_isIn_6 : decode cX11_isIn 6 = .ok (.if_icmp .ne 7, 3) := by decide +kernel
theorem dX11_isIn_9 : decode cX11_isIn 9 = .ok (.iconst 1, 1) := by decide +kernel
theorem dX11_isIn_10 : decode cX11_isIn 10 = .ok (.goto 4, 3) := by decide +kernel
theorem dX11_isIn_13 : decode cX11_isIn 13 = .ok (.iconst 0, 1) := by decide +kernel
theorem dX11_isIn_14 : decode cX11_isIn 14 = .ok (.ireturn, 1) := by decide +kernel
theorem dL_law_0 : decode cL_law 0 = .ok (.new 7, 3) := by decide +kernel
theorem dL_law_3 : decode cL_law 3 = .ok (.dup, 1) := by decide +kernel
theorem dL_law_4 : decode cL_law 4 = .ok (.invokespecial 9, 3) := by decide +kernel
theorem dL_law_7 : decode cL_law 7 = .ok (.astore_n 1, 1) := by decide +kernel
theorem dL_law_8 : decode cL_law 8 = .ok (.new 10, 3) := by decide +kernel
theorem dL_law_11 : decode cL_law 11 = .ok (.dup, 1) := by decide +kernel
theorem dL_law_12 : decode cL_law 12 = .ok (.invokespecial 12, 3) := by decide +kernel
theorem dL_law_15 : decode cL_law 15 = .ok (.astore_n 2, 1) := by decide +kernel
theorem dL_law_16 : decode cL_law 16 = .ok (.iconst 0, 1) := by decide +kernel
theorem dL_law_17 : decode cL_law 17 = .ok (.istore_n 3, 1) := by decide +kernel
theorem dL_law_18 : decode cL_law 18 = .ok (.iload_n 3, 1) := by decide +kernel
theorem dL_law_19 : decode cL_law 19 = .ok (.aload_n 0, 1) := by decide +kernel
theorem dL_law_20 : decode cL_law 20 = .ok (.arraylength, 1) := by decide +kernel
theorem dL_law_21 : decode cL_law 21 = .ok (.bipush 7, 2) := by decide +kernel
theorem dL_law_23 : decode cL_law 23 = .ok (.isub, 1) := by decide +kernel
theorem dL_law_24 : decode cL_law 24 = .ok (.if_icmp .gt 948, 3) := by decide +kernel
theorem dL_law_27 : decode cL_law 27 = .ok (.aload_n 0, 1) := by decide +kernel
theorem dL_law_28 : decode cL_law 28 = .ok (.iload_n 3, 1) := by decide +kernel
theorem dL_law_29 : decode cL_law 29 = .ok (.iaload, 1) := by decide +kernel
theorem dL_law_30 : decode cL_law 30 = .ok (.bipush 31, 2) := by decide +kernel
theorem dL_law_32 : decode cL_law 32 = .ok (.iand, 1) := by decide +kernel
theorem dL_law_33 : decode cL_law 33 = .ok (.tableswitch 933 0 31 #[143, 176, 251, 284, 307, 320, 333, 356, 369, 402, 425, 448, 471, 494, 527, 550, 583, 606, 639, 682, 695, 708, 721, 734, 757, 770, 803, 827, 850, 873, 896, 919], 143) := by decide +kernel
theorem dL_law_176 : decode cL_law 176 = .ok (.aload_n 1, 1) := by decide +kernel
theorem dL_law_177 : decode cL_law 177 = .ok (.aload_n 0, 1) := by decide +kernel
theorem dL_law_178 : decode cL_law 178 = .ok (.iload_n 3, 1) := by decide +kernel
theorem dL_law_179 : decode cL_law 179 = .ok (.iconst 1, 1) := by decide +kernel
theorem dL_law_180 : decode cL_law 180 = .ok (.iadd, 1) := by decide +kernel
theorem dL_law_181 : decode cL_law 181 = .ok (.iaload, 1) := by decide +kernel
theorem dL_law_182 : decode cL_law 182 = .ok (.aload_n 0, 1) := by decide +kernel
theorem dL_law_183 : decode cL_law 183 = .ok (.iload_n 3, 1) := by decide +kernel
theorem dL_law_184 : decode cL_law 184 = .ok (.iconst 2, 1) := by decide +kernel
theorem dL_law_185 : decode cL_law 185 = .ok (.iadd, 1) := by decide +kernel
theorem dL_law_186 : decode cL_law 186 = .ok (.iaload, 1) := by decide +kernel
theorem dL_law_187 : decode cL_law 187 = .ok (.invokevirtual 13, 3) := by decide +kernel
theorem dL_law_190 : decode cL_law 190 = .ok (.aload_n 2, 1) := by decide +kernel
theorem dL_law_191 : decode cL_law 191 = .ok (.aload_n 0, 1) := by decide +kernel
theorem dL_law_192 : decode cL_law 192 = .ok (.iload_n 3, 1) := by decide +kernel
theorem dL_law_193 : decode cL_law 193 = .ok (.iconst 1, 1) := by decide +kernel
theorem dL_law_194 : decode cL_law 194 = .ok (.iadd, 1) := by decide +kernel
theorem dL_law_195 : decode cL_law 195 = .ok (.iaload, 1) := by decide +kernel
theorem dL_law_196 : decode cL_law 196 = .ok (.aload_n 0, 1) := by decide +kernel
theorem dL_law_197 : decode cL_law 197 = .ok (.iload_n 3, 1) := by decide +kernel
theorem dL_law_198 : decode cL_law 198 = .ok (.iconst 2, 1) := by decide +kernel
theorem dL_law_199 : decode cL_law 199 = .ok (.iadd, 1) := by decide +kernel
theorem dL_law_200 : decode cL_law 200 = .ok (.iaload, 1) := by decide +kernel
theorem dL_law_201 : decode cL_law 201 = .ok (.invokevirtual 17, 3) := by decide +kernel
theorem dL_law_204 : decode cL_law 204 = .ok (.if_icmp .eq 762, 3) := by decide +kernel
theorem dL_law_207 : decode cL_law 207 = .ok (.iconst 0, 1) := by decide +kernel
theorem dL_law_208 : decode cL_law 208 = .ok (.ireturn, 1) := by decide +kernel
theorem dL_law_209 : decode cL_law 209 = .ok (.aload_n 1, 1) := by decide +kernel
theorem dL_law_210 : decode cL_law 210 = .ok (.aload_n 0, 1) := by decide +kernel
theorem dL_law_211 : decode cL_law 211 = .ok (.iload_n 3, 1) := by decide +kernel
theorem dL_law_212 : decode cL_law 212 = .ok (.iconst 1, 1) := by decide +kernel
theorem dL_law_213 : decode cL_law 213 = .ok (.iadd, 1) := by decide +kernel
theorem dL_law_214 : decode cL_law 214 = .ok (.iaload, 1) := by decide +kernel
theorem dL_law_215 : decode cL_law 215 = .ok (.aload_n 0, 1) := by decide +kernel
theorem dL_law_216 : decode cL_law 216 = .ok (.iload_n 3, 1) := by decide +kernel
theorem dL_law_217 : decode cL_law 217 = .ok (.iconst 2, 1) := by decide +kernel
theorem dL_law_218 : decode cL_law 218 = .ok (.iadd, 1) := by decide +kernel
theorem dL_law_219 : decode cL_law 219 = .ok (.iaload, 1) := by decide +kernel
theorem dL_law_220 : decode cL_law 220 = .ok (.aload_n 0, 1) := by decide +kernel
theorem dL_law_221 : decode cL_law 221 = .ok (.iload_n 3, 1) := by decide +kernel
theorem dL_law_222 : decode cL_law 222 = .ok (.iconst 3, 1) := by decide +kernel
theorem dL_law_223 : decode cL_law 223 = .ok (.iadd, 1) := by decide +kernel
theorem dL_law_224 : decode cL_law 224 = .ok (.iaload, 1) := by decide +kernel
theorem dL_law_225 : decode cL_law 225 = .ok (.aload_n 0, 1) := by decide +kernel
theorem dL_law_226 : decode cL_law 226 = .ok (.iload_n 3, 1) := by decide +kernel
theorem dL_law_227 : decode cL_law 227 = .ok (.iconst 4, 1) := by decide +kernel
theorem dL_law_228 : decode cL_law 228 = .ok (.iadd, 1) := by decide +kernel
theorem dL_law_229 : decode cL_law 229 = .ok (.iaload, 1) := by decide +kernel
theorem dL_law_230 : decode cL_law 230 = .ok (.aload_n 0, 1) := by decide +kernel
theorem dL_law_231 : decode cL_law 231 = .ok (.iload_n 3, 1) := by decide +kernel
theorem dL_law_232 : decode cL_law 232 = .ok (.iconst 5, 1) := by decide +kernel
theorem dL_law_233 : decode cL_law 233 = .ok (.iadd, 1) := by decide +kernel
theorem dL_law_234 : decode cL_law 234 = .ok (.iaload, 1) := by decide +kernel
theorem dL_law_235 : decode cL_law 235 = .ok (.aload_n 0, 1) := by decide +kernel
theorem dL_law_236 : decode cL_law 236 = .ok (.iload_n 3, 1) := by decide +kernel
theorem dL_law_237 : decode cL_law 237 = .ok (.bipush 6, 2) := by decide +kernel
theorem dL_law_239 : decode cL_law 239 = .ok (.iadd, 1) := by decide +kernel
theorem dL_law_240 : decode cL_law 240 = .ok (.iaload, 1) := by decide +kernel
theorem dL_law_241 : decode cL_law 241 = .ok (.invokevirtual 18, 3) := by decide +kernel
theorem dL_law_244 : decode cL_law 244 = .ok (.aload_n 2, 1) := by decide +kernel
theorem dL_law_245 : decode cL_law 245 = .ok (.aload_n 0, 1) := by decide +kernel
theorem dL_law_246 : decode cL_law 246 = .ok (.iload_n 3, 1) := by decide +kernel
theorem dL_law_247 : decode cL_law 247 = .ok (.iconst 1, 1) := by decide +kernel
theorem dL_law_248 : decode cL_law 248 = .ok (.iadd, 1) := by decide +kernel
theorem dL_law_249 : decode cL_law 249 = .ok (.iaload, 1) := by decide +kernel
theorem dL_law_250 : decode cL_law 250 = .ok (.aload_n 0, 1) := by decide +kernel
theorem dL_law_251 : decode cL_law 251 = .ok (.iload_n 3, 1) := by decide +kernel
theorem dL_law_252 : decode cL_law 252 = .ok (.iconst 2, 1) := by decide +kernel
theorem dL_law_253 : decode cL_law 253 = .ok (.iadd, 1) := by decide +kernel
theorem dL_law_254 : decode cL_law 254 = .ok (.iaload, 1) := by decide +kernel
theorem dL_law_255 : decode cL_law 255 = .ok (.aload_n 0, 1) := by decide +kernel
theorem dL_law_256 : decode cL_law 256 = .ok (.iload_n 3, 1) := by decide +kernel
theorem dL_law_257 : decode cL_law 257 = .ok (.iconst 3, 1) := by decide +kernel
theorem dL_law_258 : decode cL_law 258 = .ok (.iadd, 1) := by decide +kernel
theorem dL_law_259 : decode cL_law 259 = .ok (.iaload, 1) := by decide +kernel
theorem dL_law_260 : decode cL_law 260 = .ok (.aload_n 0, 1) := by decide +kernel
theorem dL_law_261 : decode cL_law 261 = .ok (.iload_n 3, 1) := by decide +kernel
theorem dL_law_262 : decode cL_law 262 = .ok (.iconst 4, 1) := by decide +kernel
theorem dL_law_263 : decode cL_law 263 = .ok (.iadd, 1) := by decide +kernel
theorem dL_law_264 : decode cL_law 264 = .ok (.iaload, 1) := by decide +kernel
theorem dL_law_265 : decode cL_law 265 = .ok (.aload_n 0, 1) := by decide +kernel
theorem dL_law_266 : decode cL_law 266 = .ok (.iload_n 3, 1) := by decide +kernel
theorem dL_law_267 : decode cL_law 267 = .ok (.iconst 5, 1) := by decide +kernel
theorem dL_law_268 : decode cL_law 268 = .ok (.iadd, 1) := by decide +kernel
theorem dL_law_269 : decode cL_law 269 = .ok (.iaload, 1) := by decide +kernel
theorem dL_law_270 : decode cL_law 270 = .ok (.aload_n 0, 1) := by decide +kernel
theorem dL_law_271 : decode cL_law 271 = .ok (.iload_n 3, 1) := by decide +kernel
theorem dL_law_272 : decode cL_law 272 = .ok (.bipush 6, 2) := by decide +kernel
theorem dL_law_274 : decode cL_law 274 = .ok (.iadd, 1) := by decide +kernel
theorem dL_law_275 : decode cL_law 275 = .ok (.iaload, 1) := by decide +kernel
theorem dL_law_276 : decode cL_law 276 = .ok (.invokevirtual 22, 3) := by decide +kernel
theorem dL_law_279 : decode cL_law 279 = .ok (.if_icmp .eq 687, 3) := by decide +kernel
theorem dL_law_282 : decode cL_law 282 = .ok (.iconst 0, 1) := by decide +kernel
theorem dL_law_283 : decode cL_law 283 = .ok (.ireturn, 1) := by decide +kernel
theorem dL_law_284 : decode cL_law 284 = .ok (.aload_n 1, 1) := by decide +kernel
theorem dL_law_285 : decode cL_law 285 = .ok (.aload_n 0, 1) := by decide +kernel
theorem dL_law_286 : decode cL_law 286 = .ok (.iload_n 3, 1) := by decide +kernel
theorem dL_law_287 : decode cL_law 287 = .ok (.iconst 1, 1) := by decide +kernel
theorem dL_law_288 : decode cL_law 288 = .ok (.iadd, 1) := by decide +kernel
theorem dL_law_289 : decode cL_law 289 = .ok (.iaload, 1) := by decide +kernel
theorem dL_law_290 : decode cL_law 290 = .ok (.aload_n 0, 1) := by decide +kernel
theorem dL_law_291 : decode cL_law 291 = .ok (.iload_n 3, 1) := by decide +kernel
theorem dL_law_292 : decode cL_law 292 = .ok (.iconst 2, 1) := by decide +kernel
theorem dL_law_293 : decode cL_law 293 = .ok (.iadd, 1) := by decide +kernel
theorem dL_law_294 : decode cL_law 294 = .ok (.iaload, 1) := by decide +kernel
theorem dL_law_295 : decode cL_law 295 = .ok (.invokevirtual 23, 3) := by decide +kernel
theorem dL_law_298 : decode cL_law 298 = .ok (.aload_n 2, 1) := by decide +kernel
theorem dL_law_299 : decode cL_law 299 = .ok (.aload_n 0, 1) := by decide +kernel
theorem dL_law_300 : decode cL_law 300 = .ok (.iload_n 3, 1) := by decide +kernel
theorem dL_law_301 : decode cL_law 301 = .ok (.iconst 1, 1) := by decide +kernel
theorem dL_law_302 : decode cL_law 302 = .ok (.iadd, 1) := by decide +kernel
theorem dL_law_303 : decode cL_law 303 = .ok (.iaload, 1) := by decide +kernel
theorem dL_law_304 : decode cL_law 304 = .ok (.aload_n 0, 1) := by decide +kernel
theorem dL_law_305 : decode cL_law 305 = .ok (.iload_n 3, 1) := by decide +kernel
theorem dL_law_306 : decode cL_law 306 = .ok (.iconst 2, 1) := by decide +kernel
theorem dL_law_307 : decode cL_law 307 = .ok (.iadd, 1) := by decide +kernel
theorem dL_law_308 : decode cL_law 308 = .ok (.iaload, 1) := by decide +kernel
theorem dL_law_309 : decode cL_law 309 = .ok (.invokevirtual 26, 3) := by decide +kernel
theorem dL_law_312 : decode cL_law 312 = .ok (.if_icmp .eq 654, 3) := by decide +kernel
theorem dL_law_315 : decode cL_law 315 = .ok (.iconst 0, 1) := by decide +kernel
theorem dL_law_316 : decode cL_law 316 = .ok (.ireturn, 1) := by decide +kernel
theorem dL_law_317 : decode cL_law 317 = .ok (.aload_n 1, 1) := by decide +kernel
theorem dL_law_318 : decode cL_law 318 = .ok (.aload_n 0, 1) := by decide +kernel
theorem dL_law_319 : decode cL_law 319 = .ok (.iload_n 3, 1) := by decide +kernel
theorem dL_law_320 : decode cL_law 320 = .ok (.iconst 1, 1) := by decide +kernel
theorem dL_law_321 : decode cL_law 321 = .ok (.iadd, 1) := by decide +kernel
theorem dL_law_322 : decode cL_law 322 = .ok (.iaload, 1) := by decide +kernel
theorem dL_law_323 : decode cL_law 323 = .ok (.invokevirtual 27, 3) := by decide +kernel
theorem dL_law_326 : decode cL_law 326 = .ok (.aload_n 2, 1) := by decide +kernel
theorem dL_law_327 : decode cL_law 327 = .ok (.aload_n 0, 1) := by decide +kernel
theorem dL_law_328 : decode cL_law 328 = .ok (.iload_n 3, 1) := by decide +kernel
theorem dL_law_329 : decode cL_law 329 = .ok (.iconst 1, 1) := by decide +kernel
theorem dL_law_330 : decode cL_law 330 = .ok (.iadd, 1) := by decide +kernel
theorem dL_law_331 : decode cL_law 331 = .ok (.iaload, 1) := by decide +kernel
theorem dL_law_332 : decode cL_law 332 = .ok (.invokevirtual 31, 3) := by decide +kernel
theorem dL_law_335 : decode cL_law 335 = .ok (.if_icmp .eq 631, 3) := by decide +kernel
theorem dL_law_338 : decode cL_law 338 = .ok (.iconst 0, 1) := by decide +kernel
theorem dL_law_339 : decode cL_law 339 = .ok (.ireturn, 1) := by decide +kernel
theorem dL_law_340 : decode cL_law 340 = .ok (.aload_n 1, 1) := by decide +kernel
theorem dL_law_341 : decode cL_law 341 = .ok (.invokevirtual 32, 3) := by decide +kernel
theorem dL_law_344 : decode cL_law 344 = .ok (.aload_n 2, 1) := by decide +kernel
theorem dL_law_345 : decode cL_law 345 = .ok (.invokevirtual 36, 3) := by decide +kernel
theorem dL_law_348 : decode cL_law 348 = .ok (.if_icmp .eq 618, 3) := by decide +kernel
theorem dL_law_351 : decode cL_law 351 = .ok (.iconst 0, 1) := by decide +kernel
theorem dL_law_352 : decode cL_law 352 = .ok (.ireturn, 1) := by decide +kernel
theorem dL_law_353 : decode cL_law 353 = .ok (.aload_n 1, 1) := by decide +kernel
theorem dL_law_354 : decode cL_law 354 = .ok (.invokevirtual 37, 3) := by decide +kernel
theorem dL_law_357 : decode cL_law 357 = .ok (.aload_n 2, 1) := by decide +kernel
theorem dL_law_358 : decode cL_law 358 = .ok (.invokevirtual 40, 3) := by decide +kernel
theorem dL_law_361 : decode cL_law 361 = .ok (.if_icmp .eq 605, 3) := by decide +kernel
theorem dL_law_364 : decode cL_law 364 = .ok (.iconst 0, 1) := by decide +kernel
theorem dL_law_365 : decode cL_law 365 = .ok (.ireturn, 1) := by decide +kernel
theorem dL_law_366 : decode cL_law 366 = .ok (.aload_n 1, 1) := by decide +kernel
theorem dL_law_367 : decode cL_law 367 = .ok (.aload_n 0, 1) := by decide +kernel
theorem dL_law_368 : decode cL_law 368 = .ok (.iload_n 3, 1) := by decide +kernel
theorem dL_law_369 : decode cL_law 369 = .ok (.iconst 1, 1) := by decide +kernel
theorem dL_law_370 : decode cL_law 370 = .ok (.iadd, 1) := by decide +kernel
theorem dL_law_371 : decode cL_law 371 = .ok (.iaload, 1) := by decide +kernel
theorem dL_law_372 : decode cL_law 372 = .ok (.invokevirtual 41, 3) := by decide +kernel
theorem dL_law_375 : decode cL_law 375 = .ok (.aload_n 2, 1) := by decide +kernel
theorem dL_law_376 : decode cL_law 376 = .ok (.aload_n 0, 1) := by decide +kernel
theorem dL_law_377 : decode cL_law 377 = .ok (.iload_n 3, 1) := by decide +kernel
theorem dL_law_378 : decode cL_law 378 = .ok (.iconst 1, 1) := by decide +kernel
theorem dL_law_379 : decode cL_law 379 = .ok (.iadd, 1) := by decide +kernel
theorem dL_law_380 : decode cL_law 380 = .ok (.iaload, 1) := by decide +kernel
theorem dL_law_381 : decode cL_law 381 = .ok (.invokevirtual 44, 3) := by decide +kernel
theorem dL_law_384 : decode cL_law 384 = .ok (.if_icmp .eq 582, 3) := by decide +kernel
theorem dL_law_387 : decode cL_law 387 = .ok (.iconst 0, 1) := by decide +kernel
theorem dL_law_388 : decode cL_law 388 = .ok (.ireturn, 1) := by decide +kernel
theorem dL_law_389 : decode cL_law 389 = .ok (.aload_n 1, 1) := by decide +kernel
theorem dL_law_390 : decode cL_law 390 = .ok (.invokevirtual 45, 3) := by decide +kernel
theorem dL_law_393 : decode cL_law 393 = .ok (.aload_n 2, 1) := by decide +kernel
theorem dL_law_394 : decode cL_law 394 = .ok (.invokevirtual 48, 3) := by decide +kernel
theorem dL_law_397 : decode cL_law 397 = .ok (.if_icmp .eq 569, 3) := by decide +kernel
theorem dL_law_400 : decode cL_law 400 = .ok (.iconst 0, 1) := by decide +kernel
theorem dL_law_401 : decode cL_law 401 = .ok (.ireturn, 1) := by decide +kernel
theorem dL_law_402 : decode cL_law 402 = .ok (.aload_n 1, 1) := by decide +kernel
theorem dL_law_403 : decode cL_law 403 = .ok (.aload_n 0, 1) := by decide +kernel
theorem dL_law_404 : decode cL_law 404 = .ok (.iload_n 3, 1) := by decide +kernel
theorem dL_law_405 : decode cL_law 405 = .ok (.iconst 1, 1) := by decide +kernel
theorem dL_law_406 : decode cL_law 406 = .ok (.iadd, 1) := by decide +kernel
theorem dL_law_407 : decode cL_law 407 = .ok (.iaload, 1) := by decide +kernel
theorem dL_law_408 : decode cL_law 408 = .ok (.aload_n 0, 1) := by decide +kernel
theorem dL_law_409 : decode cL_law 409 = .ok (.iload_n 3, 1) := by decide +kernel
theorem dL_law_410 : decode cL_law 410 = .ok (.iconst 2, 1) := by decide +kernel
theorem dL_law_411 : decode cL_law 411 = .ok (.iadd, 1) := by decide +kernel
theorem dL_law_412 : decode cL_law 412 = .ok (.iaload, 1) := by decide +kernel
theorem dL_law_413 : decode cL_law 413 = .ok (.invokevirtual 49, 3) := by decide +kernel
theorem dL_law_416 : decode cL_law 416 = .ok (.aload_n 2, 1) := by decide +kernel
theorem dL_law_417 : decode cL_law 417 = .ok (.aload_n 0, 1) := by decide +kernel
theorem dL_law_418 : decode cL_law 418 = .ok (.iload_n 3, 1) := by decide +kernel
theorem dL_law_419 : decode cL_law 419 = .ok (.iconst 1, 1) := by decide +kernel
theorem dL_law_420 : decode cL_law 420 = .ok (.iadd, 1) := by decide +kernel
theorem dL_law_421 : decode cL_law 421 = .ok (.iaload, 1) := by decide +kernel
theorem dL_law_422 : decode cL_law 422 = .ok (.aload_n 0, 1) := by decide +kernel
theorem dL_law_423 : decode cL_law 423 = .ok (.iload_n 3, 1) := by decide +kernel
theorem dL_law_424 : decode cL_law 424 = .ok (.iconst 2, 1) := by decide +kernel
theorem dL_law_425 : decode cL_law 425 = .ok (.iadd, 1) := by decide +kernel
theorem dL_law_426 : decode cL_law 426 = .ok (.iaload, 1) := by decide +kernel
theorem dL_law_427 : decode cL_law 427 = .ok (.invokevirtual 52, 3) := by decide +kernel
theorem dL_law_430 : decode cL_law 430 = .ok (.if_icmp .eq 536, 3) := by decide +kernel
theorem dL_law_433 : decode cL_law 433 = .ok (.iconst 0, 1) := by decide +kernel
theorem dL_law_434 : decode cL_law 434 = .ok (.ireturn, 1) := by decide +kernel
theorem dL_law_435 : decode cL_law 435 = .ok (.aload_n 1, 1) := by decide +kernel
theorem dL_law_436 : decode cL_law 436 = .ok (.aload_n 0, 1) := by decide +kernel
theorem dL_law_437 : decode cL_law 437 = .ok (.iload_n 3, 1) := by decide +kernel
theorem dL_law_438 : decode cL_law 438 = .ok (.iconst 1, 1) := by decide +kernel
theorem dL_law_439 : decode cL_law 439 = .ok (.iadd, 1) := by decide +kernel
theorem dL_law_440 : decode cL_law 440 = .ok (.iaload, 1) := by decide +kernel
theorem dL_law_441 : decode cL_law 441 = .ok (.invokevirtual 53, 3) := by decide +kernel
theorem dL_law_444 : decode cL_law 444 = .ok (.aload_n 2, 1) := by decide +kernel
theorem dL_law_445 : decode cL_law 445 = .ok (.aload_n 0, 1) := by decide +kernel
theorem dL_law_446 : decode cL_law 446 = .ok (.iload_n 3, 1) := by decide +kernel
theorem dL_law_447 : decode cL_law 447 = .ok (.iconst 1, 1) := by decide +kernel
theorem dL_law_448 : decode cL_law 448 = .ok (.iadd, 1) := by decide +kernel
theorem dL_law_449 : decode cL_law 449 = .ok (.iaload, 1) := by decide +kernel
theorem dL_law_450 : decode cL_law 450 = .ok (.invokevirtual 56, 3) := by decide +kernel
theorem dL_law_453 : decode cL_law 453 = .ok (.if_icmp .eq 513, 3) := by decide +kernel
theorem dL_law_456 : decode cL_law 456 = .ok (.iconst 0, 1) := by decide +kernel
theorem dL_law_457 : decode cL_law 457 = .ok (.ireturn, 1) := by decide +kernel
theorem dL_law_458 : decode cL_law 458 = .ok (.aload_n 1, 1) := by decide +kernel
theorem dL_law_459 : decode cL_law 459 = .ok (.aload_n 0, 1) := by decide +kernel
theorem dL_law_460 : decode cL_law 460 = .ok (.iload_n 3, 1) := by decide +kernel
theorem dL_law_461 : decode cL_law 461 = .ok (.iconst 1, 1) := by decide +kernel
theorem dL_law_462 : decode cL_law 462 = .ok (.iadd, 1) := by decide +kernel
theorem dL_law_463 : decode cL_law 463 = .ok (.iaload, 1) := by decide +kernel
theorem dL_law_464 : decode cL_law 464 = .ok (.invokevirtual 57, 3) := by decide +kernel
theorem dL_law_467 : decode cL_law 467 = .ok (.aload_n 2, 1) := by decide +kernel
theorem dL_law_468 : decode cL_law 468 = .ok (.aload_n 0, 1) := by decide +kernel
theorem dL_law_469 : decode cL_law 469 = .ok (.iload_n 3, 1) := by decide +kernel
theorem dL_law_470 : decode cL_law 470 = .ok (.iconst 1, 1) := by decide +kernel
theorem dL_law_471 : decode cL_law 471 = .ok (.iadd, 1) := by decide +kernel
theorem dL_law_472 : decode cL_law 472 = .ok (.iaload, 1) := by decide +kernel
theorem dL_law_473 : decode cL_law 473 = .ok (.invokevirtual 60, 3) := by decide +kernel
theorem dL_law_476 : decode cL_law 476 = .ok (.if_icmp .eq 490, 3) := by decide +kernel
theorem dL_law_479 : decode cL_law 479 = .ok (.iconst 0, 1) := by decide +kernel
theorem dL_law_480 : decode cL_law 480 = .ok (.ireturn, 1) := by decide +kernel
theorem dL_law_481 : decode cL_law 481 = .ok (.aload_n 1, 1) := by decide +kernel
theorem dL_law_482 : decode cL_law 482 = .ok (.aload_n 0, 1) := by decide +kernel
theorem dL_law_483 : decode cL_law 483 = .ok (.iload_n 3, 1) := by decide +kernel
theorem dL_law_484 : decode cL_law 484 = .ok (.iconst 1, 1) := by decide +kernel
theorem dL_law_485 : decode cL_law 485 = .ok (.iadd, 1) := by decide +kernel
theorem dL_law_486 : decode cL_law 486 = .ok (.iaload, 1) := by decide +kernel
theorem dL_law_487 : decode cL_law 487 = .ok (.invokevirtual 61, 3) := by decide +kernel
theorem dL_law_490 : decode cL_law 490 = .ok (.aload_n 2, 1) := by decide +kernel
theorem dL_law_491 : decode cL_law 491 = .ok (.aload_n 0, 1) := by decide +kernel
theorem dL_law_492 : decode cL_law 492 = .ok (.iload_n 3, 1) := by decide +kernel
theorem dL_law_493 : decode cL_law 493 = .ok (.iconst 1, 1) := by decide +kernel
theorem dL_law_494 : decode cL_law 494 = .ok (.iadd, 1) := by decide +kernel
theorem dL_law_495 : decode cL_law 495 = .ok (.iaload, 1) := by decide +kernel
theorem dL_law_496 : decode cL_law 496 = .ok (.invokevirtual 64, 3) := by decide +kernel
theorem dL_law_499 : decode cL_law 499 = .ok (.if_icmp .eq 467, 3) := by decide +kernel
theorem dL_law_502 : decode cL_law 502 = .ok (.iconst 0, 1) := by decide +kernel
theorem dL_law_503 : decode cL_law 503 = .ok (.ireturn, 1) := by decide +kernel
theorem dL_law_504 : decode cL_law 504 = .ok (.aload_n 1, 1) := by decide +kernel
theorem dL_law_505 : decode cL_law 505 = .ok (.aload_n 0, 1) := by decide +kernel
theorem dL_law_506 : decode cL_law 506 = .ok (.iload_n 3, 1) := by decide +kernel
theorem dL_law_507 : decode cL_law 507 = .ok (.iconst 1, 1) := by decide +kernel
theorem dL_law_508 : decode cL_law 508 = .ok (.iadd, 1) := by decide +kernel
theorem dL_law_509 : decode cL_law 509 = .ok (.iaload, 1) := by decide +kernel
theorem dL_law_510 : decode cL_law 510 = .ok (.invokevirtual 65, 3) := by decide +kernel
theorem dL_law_513 : decode cL_law 513 = .ok (.aload_n 2, 1) := by decide +kernel
theorem dL_law_514 : decode cL_law 514 = .ok (.aload_n 0, 1) := by decide +kernel
theorem dL_law_515 : decode cL_law 515 = .ok (.iload_n 3, 1) := by decide +kernel
theorem dL_law_516 : decode cL_law 516 = .ok (.iconst 1, 1) := by decide +kernel
theorem dL_law_517 : decode cL_law 517 = .ok (.iadd, 1) := by decide +kernel
theorem dL_law_518 : decode cL_law 518 = .ok (.iaload, 1) := by decide +kernel
theorem dL_law_519 : decode cL_law 519 = .ok (.invokevirtual 68, 3) := by decide +kernel
theorem dL_law_522 : decode cL_law 522 = .ok (.if_icmp .eq 444, 3) := by decide +kernel
theorem dL_law_525 : decode cL_law 525 = .ok (.iconst 0, 1) := by decide +kernel
theorem dL_law_526 : decode cL_law 526 = .ok (.ireturn, 1) := by decide +kernel
theorem dL_law_527 : decode cL_law 527 = .ok (.aload_n 1, 1) := by decide +kernel
theorem dL_law_528 : decode cL_law 528 = .ok (.aload_n 0, 1) := by decide +kernel
theorem dL_law_529 : decode cL_law 529 = .ok (.iload_n 3, 1) := by decide +kernel
theorem dL_law_530 : decode cL_law 530 = .ok (.iconst 1, 1) := by decide +kernel
theorem dL_law_531 : decode cL_law 531 = .ok (.iadd, 1) := by decide +kernel
theorem dL_law_532 : decode cL_law 532 = .ok (.iaload, 1) := by decide +kernel
theorem dL_law_533 : decode cL_law 533 = .ok (.aload_n 0, 1) := by decide +kernel
theorem dL_law_534 : decode cL_law 534 = .ok (.iload_n 3, 1) := by decide +kernel
theorem dL_law_535 : decode cL_law 535 = .ok (.iconst 2, 1) := by decide +kernel
theorem dL_law_536 : decode cL_law 536 = .ok (.iadd, 1) := by decide +kernel
theorem dL_law_537 : decode cL_law 537 = .ok (.iaload, 1) := by decide +kernel
theorem dL_law_538 : decode cL_law 538 = .ok (.invokevirtual 69, 3) := by decide +kernel
theorem dL_law_541 : decode cL_law 541 = .ok (.aload_n 2, 1) := by decide +kernel
theorem dL_law_542 : decode cL_law 542 = .ok (.aload_n 0, 1) := by decide +kernel
theorem dL_law_543 : decode cL_law 543 = .ok (.iload_n 3, 1) := by decide +kernel
theorem dL_law_544 : decode cL_law 544 = .ok (.iconst 1, 1) := by decide +kernel
theorem dL_law_545 : decode cL_law 545 = .ok (.iadd, 1) := by decide +kernel
theorem dL_law_546 : decode cL_law 546 = .ok (.iaload, 1) := by decide +kernel
theorem dL_law_547 : decode cL_law 547 = .ok (.aload_n 0, 1) := by decide +kernel
theorem dL_law_548 : decode cL_law 548 = .ok (.iload_n 3, 1) := by decide +kernel
theorem dL_law_549 : decode cL_law 549 = .ok (.iconst 2, 1) := by decide +kernel
theorem dL_law_550 : decode cL_law 550 = .ok (.iadd, 1) := by decide +kernel
theorem dL_law_551 : decode cL_law 551 = .ok (.iaload, 1) := by decide +kernel
theorem dL_law_552 : decode cL_law 552 = .ok (.invokevirtual 72, 3) := by decide +kernel
theorem dL_law_555 : decode cL_law 555 = .ok (.if_icmp .eq 411, 3) := by decide +kernel
theorem dL_law_558 : decode cL_law 558 = .ok (.iconst 0, 1) := by decide +kernel
theorem dL_law_559 : decode cL_law 559 = .ok (.ireturn, 1) := by decide +kernel
theorem dL_law_560 : decode cL_law 560 = .ok (.aload_n 1, 1) := by decide +kernel
theorem dL_law_561 : decode cL_law 561 = .ok (.aload_n 0, 1) := by decide +kernel
theorem dL_law_562 : decode cL_law 562 = .ok (.iload_n 3, 1) := by decide +kernel
theorem dL_law_563 : decode cL_law 563 = .ok (.iconst 1, 1) := by decide +kernel
theorem dL_law_564 : decode cL_law 564 = .ok (.iadd, 1) := by decide +kernel
theorem dL_law_565 : decode cL_law 565 = .ok (.iaload, 1) := by decide +kernel
theorem dL_law_566 : decode cL_law 566 = .ok (.invokevirtual 73, 3) := by decide +kernel
theorem dL_law_569 : decode cL_law 569 = .ok (.aload_n 2, 1) := by decide +kernel
theorem dL_law_570 : decode cL_law 570 = .ok (.aload_n 0, 1) := by decide +kernel
theorem dL_law_571 : decode cL_law 571 = .ok (.iload_n 3, 1) := by decide +kernel
theorem dL_law_572 : decode cL_law 572 = .ok (.iconst 1, 1) := by decide +kernel
theorem dL_law_573 : decode cL_law 573 = .ok (.iadd, 1) := by decide +kernel
theorem dL_law_574 : decode cL_law 574 = .ok (.iaload, 1) := by decide +kernel
theorem dL_law_575 : decode cL_law 575 = .ok (.invokevirtual 76, 3) := by decide +kernel
theorem dL_law_578 : decode cL_law 578 = .ok (.if_icmp .eq 388, 3) := by decide +kernel
theorem dL_law_581 : decode cL_law 581 = .ok (.iconst 0, 1) := by decide +kernel
theorem dL_law_582 : decode cL_law 582 = .ok (.ireturn, 1) := by decide +kernel
theorem dL_law_583 : decode cL_law 583 = .ok (.aload_n 1, 1) := by decide +kernel
theorem dL_law_584 : decode cL_law 584 = .ok (.aload_n 0, 1) := by decide +kernel
theorem dL_law_585 : decode cL_law 585 = .ok (.iload_n 3, 1) := by decide +kernel
theorem dL_law_586 : decode cL_law 586 = .ok (.iconst 1, 1) := by decide +kernel
theorem dL_law_587 : decode cL_law 587 = .ok (.iadd, 1) := by decide +kernel
theorem dL_law_588 : decode cL_law 588 = .ok (.iaload, 1) := by decide +kernel
theorem dL_law_589 : decode cL_law 589 = .ok (.aload_n 0, 1) := by decide +kernel
theorem dL_law_590 : decode cL_law 590 = .ok (.iload_n 3, 1) := by decide +kernel
theorem dL_law_591 : decode cL_law 591 = .ok (.iconst 2, 1) := by decide +kernel
theorem dL_law_592 : decode cL_law 592 = .ok (.iadd, 1) := by decide +kernel
theorem dL_law_593 : decode cL_law 593 = .ok (.iaload, 1) := by decide +kernel
theorem dL_law_594 : decode cL_law 594 = .ok (.invokevirtual 77, 3) := by decide +kernel
theorem dL_law_597 : decode cL_law 597 = .ok (.aload_n 2, 1) := by decide +kernel
theorem dL_law_598 : decode cL_law 598 = .ok (.aload_n 0, 1) := by decide +kernel
theorem dL_law_599 : decode cL_law 599 = .ok (.iload_n 3, 1) := by decide +kernel
theorem dL_law_600 : decode cL_law 600 = .ok (.iconst 1, 1) := by decide +kernel
theorem dL_law_601 : decode cL_law 601 = .ok (.iadd, 1) := by decide +kernel
theorem dL_law_602 : decode cL_law 602 = .ok (.iaload, 1) := by decide +kernel
theorem dL_law_603 : decode cL_law 603 = .ok (.aload_n 0, 1) := by decide +kernel
theorem dL_law_604 : decode cL_law 604 = .ok (.iload_n 3, 1) := by decide +kernel
theorem dL_law_605 : decode cL_law 605 = .ok (.iconst 2, 1) := by decide +kernel
theorem dL_law_606 : decode cL_law 606 = .ok (.iadd, 1) := by decide +kernel
theorem dL_law_607 : decode cL_law 607 = .ok (.iaload, 1) := by decide +kernel
theorem dL_law_608 : decode cL_law 608 = .ok (.invokevirtual 80, 3) := by decide +kernel
theorem dL_law_611 : decode cL_law 611 = .ok (.if_icmp .eq 355, 3) := by decide +kernel
theorem dL_law_614 : decode cL_law 614 = .ok (.iconst 0, 1) := by decide +kernel
theorem dL_law_615 : decode cL_law 615 = .ok (.ireturn, 1) := by decide +kernel
theorem dL_law_616 : decode cL_law 616 = .ok (.aload_n 1, 1) := by decide +kernel
theorem dL_law_617 : decode cL_law 617 = .ok (.aload_n 0, 1) := by decide +kernel
theorem dL_law_618 : decode cL_law 618 = .ok (.iload_n 3, 1) := by decide +kernel
theorem dL_law_619 : decode cL_law 619 = .ok (.iconst 1, 1) := by decide +kernel
theorem dL_law_620 : decode cL_law 620 = .ok (.iadd, 1) := by decide +kernel
theorem dL_law_621 : decode cL_law 621 = .ok (.iaload, 1) := by decide +kernel
theorem dL_law_622 : decode cL_law 622 = .ok (.invokevirtual 81, 3) := by decide +kernel
theorem dL_law_625 : decode cL_law 625 = .ok (.aload_n 2, 1) := by decide +kernel
theorem dL_law_626 : decode cL_law 626 = .ok (.aload_n 0, 1) := by decide +kernel
theorem dL_law_627 : decode cL_law 627 = .ok (.iload_n 3, 1) := by decide +kernel
theorem dL_law_628 : decode cL_law 628 = .ok (.iconst 1, 1) := by decide +kernel
theorem dL_law_629 : decode cL_law 629 = .ok (.iadd, 1) := by decide +kernel
theorem dL_law_630 : decode cL_law 630 = .ok (.iaload, 1) := by decide +kernel
theorem dL_law_631 : decode cL_law 631 = .ok (.invokevirtual 84, 3) := by decide +kernel
theorem dL_law_634 : decode cL_law 634 = .ok (.if_icmp .eq 332, 3) := by decide +kernel
theorem dL_law_637 : decode cL_law 637 = .ok (.iconst 0, 1) := by decide +kernel
theorem dL_law_638 : decode cL_law 638 = .ok (.ireturn, 1) := by decide +kernel
theorem dL_law_639 : decode cL_law 639 = .ok (.aload_n 1, 1) := by decide +kernel
theorem dL_law_640 : decode cL_law 640 = .ok (.aload_n 0, 1) := by decide +kernel
theorem dL_law_641 : decode cL_law 641 = .ok (.iload_n 3, 1) := by decide +kernel
theorem dL_law_642 : decode cL_law 642 = .ok (.iconst 1, 1) := by decide +kernel
theorem dL_law_643 : decode cL_law 643 = .ok (.iadd, 1) := by decide +kernel
theorem dL_law_644 : decode cL_law 644 = .ok (.iaload, 1) := by decide +kernel
theorem dL_law_645 : decode cL_law 645 = .ok (.aload_n 0, 1) := by decide +kernel
theorem dL_law_646 : decode cL_law 646 = .ok (.iload_n 3, 1) := by decide +kernel
theorem dL_law_647 : decode cL_law 647 = .ok (.iconst 2, 1) := by decide +kernel
theorem dL_law_648 : decode cL_law 648 = .ok (.iadd, 1) := by decide +kernel
theorem dL_law_649 : decode cL_law 649 = .ok (.iaload, 1) := by decide +kernel
theorem dL_law_650 : decode cL_law 650 = .ok (.invokevirtual 85, 3) := by decide +kernel
theorem dL_law_653 : decode cL_law 653 = .ok (.aload_n 2, 1) := by decide +kernel
theorem dL_law_654 : decode cL_law 654 = .ok (.aload_n 0, 1) := by decide +kernel
theorem dL_law_655 : decode cL_law 655 = .ok (.iload_n 3, 1) := by decide +kernel
theorem dL_law_656 : decode cL_law 656 = .ok (.iconst 1, 1) := by decide +kernel
theorem dL_law_657 : decode cL_law 657 = .ok (.iadd, 1) := by decide +kernel
theorem dL_law_658 : decode cL_law 658 = .ok (.iaload, 1) := by decide +kernel
theorem dL_law_659 : decode cL_law 659 = .ok (.aload_n 0, 1) := by decide +kernel
theorem dL_law_660 : decode cL_law 660 = .ok (.iload_n 3, 1) := by decide +kernel
theorem dL_law_661 : decode cL_law 661 = .ok (.iconst 2, 1) := by decide +kernel
theorem dL_law_662 : decode cL_law 662 = .ok (.iadd, 1) := by decide +kernel
theorem dL_law_663 : decode cL_law 663 = .ok (.iaload, 1) := by decide +kernel
theorem dL_law_664 : decode cL_law 664 = .ok (.invokevirtual 88, 3) := by decide +kernel
theorem dL_law_667 : decode cL_law 667 = .ok (.if_icmp .eq 299, 3) := by decide +kernel
theorem dL_law_670 : decode cL_law 670 = .ok (.iconst 0, 1) := by decide +kernel
theorem dL_law_671 : decode cL_law 671 = .ok (.ireturn, 1) := by decide +kernel
theorem dL_law_672 : decode cL_law 672 = .ok (.aload_n 1, 1) := by decide +kernel
theorem dL_law_673 : decode cL_law 673 = .ok (.aload_n 0, 1) := by decide +kernel
theorem dL_law_674 : decode cL_law 674 = .ok (.iload_n 3, 1) := by decide +kernel
theorem dL_law_675 : decode cL_law 675 = .ok (.iconst 1, 1) := by decide +kernel
theorem dL_law_676 : decode cL_law 676 = .ok (.iadd, 1) := by decide +kernel
theorem dL_law_677 : decode cL_law 677 = .ok (.iaload, 1) := by decide +kernel
theorem dL_law_678 : decode cL_law 678 = .ok (.aload_n 0, 1) := by decide +kernel
theorem dL_law_679 : decode cL_law 679 = .ok (.iload_n 3, 1) := by decide +kernel
theorem dL_law_680 : decode cL_law 680 = .ok (.iconst 2, 1) := by decide +kernel
theorem dL_law_681 : decode cL_law 681 = .ok (.iadd, 1) := by decide +kernel
theorem dL_law_682 : decode cL_law 682 = .ok (.iaload, 1) := by decide +kernel
theorem dL_law_683 : decode cL_law 683 = .ok (.aload_n 0, 1) := by decide +kernel
theorem dL_law_684 : decode cL_law 684 = .ok (.iload_n 3, 1) := by decide +kernel
theorem dL_law_685 : decode cL_law 685 = .ok (.iconst 3, 1) := by decide +kernel
theorem dL_law_686 : decode cL_law 686 = .ok (.iadd, 1) := by decide +kernel
theorem dL_law_687 : decode cL_law 687 = .ok (.iaload, 1) := by decide +kernel
theorem dL_law_688 : decode cL_law 688 = .ok (.invokevirtual 89, 3) := by decide +kernel
theorem dL_law_691 : decode cL_law 691 = .ok (.aload_n 2, 1) := by decide +kernel
theorem dL_law_692 : decode cL_law 692 = .ok (.aload_n 0, 1) := by decide +kernel
theorem dL_law_693 : decode cL_law 693 = .ok (.iload_n 3, 1) := by decide +kernel
theorem dL_law_694 : decode cL_law 694 = .ok (.iconst 1, 1) := by decide +kernel
theorem dL_law_695 : decode cL_law 695 = .ok (.iadd, 1) := by decide +kernel
theorem dL_law_696 : decode cL_law 696 = .ok (.iaload, 1) := by decide +kernel
theorem dL_law_697 : decode cL_law 697 = .ok (.aload_n 0, 1) := by decide +kernel
theorem dL_law_698 : decode cL_law 698 = .ok (.iload_n 3, 1) := by decide +kernel
theorem dL_law_699 : decode cL_law 699 = .ok (.iconst 2, 1) := by decide +kernel
theorem dL_law_700 : decode cL_law 700 = .ok (.iadd, 1) := by decide +kernel
theorem dL_law_701 : decode cL_law 701 = .ok (.iaload, 1) := by decide +kernel
theorem dL_law_702 : decode cL_law 702 = .ok (.aload_n 0, 1) := by decide +kernel
theorem dL_law_703 : decode cL_law 703 = .ok (.iload_n 3, 1) := by decide +kernel
theorem dL_law_704 : decode cL_law 704 = .ok (.iconst 3, 1) := by decide +kernel
theorem dL_law_705 : decode cL_law 705 = .ok (.iadd, 1) := by decide +kernel
theorem dL_law_706 : decode cL_law 706 = .ok (.iaload, 1) := by decide +kernel
theorem dL_law_707 : decode cL_law 707 = .ok (.invokevirtual 93, 3) := by decide +kernel
theorem dL_law_710 : decode cL_law 710 = .ok (.if_icmp .eq 256, 3) := by decide +kernel
theorem dL_law_713 : decode cL_law 713 = .ok (.iconst 0, 1) := by decide +kernel
theorem dL_law_714 : decode cL_law 714 = .ok (.ireturn, 1) := by decide +kernel
theorem dL_law_715 : decode cL_law 715 = .ok (.aload_n 1, 1) := by decide +kernel
theorem dL_law_716 : decode cL_law 716 = .ok (.invokevirtual 94, 3) := by decide +kernel
theorem dL_law_719 : decode cL_law 719 = .ok (.aload_n 2, 1) := by decide +kernel
theorem dL_law_720 : decode cL_law 720 = .ok (.invokevirtual 97, 3) := by decide +kernel
theorem dL_law_723 : decode cL_law 723 = .ok (.if_icmp .eq 243, 3) := by decide +kernel
theorem dL_law_726 : decode cL_law 726 = .ok (.iconst 0, 1) := by decide +kernel
theorem dL_law_727 : decode cL_law 727 = .ok (.ireturn, 1) := by decide +kernel
theorem dL_law_728 : decode cL_law 728 = .ok (.aload_n 1, 1) := by decide +kernel
theorem dL_law_729 : decode cL_law 729 = .ok (.invokevirtual 98, 3) := by decide +kernel
theorem dL_law_732 : decode cL_law 732 = .ok (.aload_n 2, 1) := by decide +kernel
theorem dL_law_733 : decode cL_law 733 = .ok (.invokevirtual 101, 3) := by decide +kernel
theorem dL_law_736 : decode cL_law 736 = .ok (.if_icmp .eq 230, 3) := by decide +kernel
theorem dL_law_739 : decode cL_law 739 = .ok (.iconst 0, 1) := by decide +kernel
theorem dL_law_740 : decode cL_law 740 = .ok (.ireturn, 1) := by decide +kernel
theorem dL_law_741 : decode cL_law 741 = .ok (.aload_n 1, 1) := by decide +kernel
theorem dL_law_742 : decode cL_law 742 = .ok (.invokevirtual 102, 3) := by decide +kernel
theorem dL_law_745 : decode cL_law 745 = .ok (.aload_n 2, 1) := by decide +kernel
theorem dL_law_746 : decode cL_law 746 = .ok (.invokevirtual 105, 3) := by decide +kernel
theorem dL_law_749 : decode cL_law 749 = .ok (.if_icmp .eq 217, 3) := by decide +kernel
theorem dL_law_752 : decode cL_law 752 = .ok (.iconst 0, 1) := by decide +kernel
theorem dL_law_753 : decode cL_law 753 = .ok (.ireturn, 1) := by decide +kernel
theorem dL_law_754 : decode cL_law 754 = .ok (.aload_n 1, 1) := by decide +kernel
theorem dL_law_755 : decode cL_law 755 = .ok (.invokevirtual 106, 3) := by decide +kernel
theorem dL_law_758 : decode cL_law 758 = .ok (.aload_n 2, 1) := by decide +kernel
theorem dL_law_759 : decode cL_law 759 = .ok (.invokevirtual 109, 3) := by decide +kernel
theorem dL_law_762 : decode cL_law 762 = .ok (.if_icmp .eq 204, 3) := by decide +kernel
theorem dL_law_765 : decode cL_law 765 = .ok (.iconst 0, 1) := by decide +kernel
theorem dL_law_766 : decode cL_law 766 = .ok (.ireturn, 1) := by decide +kernel
theorem dL_law_767 : decode cL_law 767 = .ok (.aload_n 1, 1) := by decide +kernel
theorem dL_law_768 : decode cL_law 768 = .ok (.aload_n 0, 1) := by decide +kernel
theorem dL_law_769 : decode cL_law 769 = .ok (.iload_n 3, 1) := by decide +kernel
theorem dL_law_770 : decode cL_law 770 = .ok (.iconst 1, 1) := by decide +kernel
theorem dL_law_771 : decode cL_law 771 = .ok (.iadd, 1) := by decide +kernel
theorem dL_law_772 : decode cL_law 772 = .ok (.iaload, 1) := by decide +kernel
theorem dL_law_773 : decode cL_law 773 = .ok (.invokevirtual 110, 3) := by decide +kernel
theorem dL_law_776 : decode cL_law 776 = .ok (.aload_n 2, 1) := by decide +kernel
theorem dL_law_777 : decode cL_law 777 = .ok (.aload_n 0, 1) := by decide +kernel
theorem dL_law_778 : decode cL_law 778 = .ok (.iload_n 3, 1) := by decide +kernel
theorem dL_law_779 : decode cL_law 779 = .ok (.iconst 1, 1) := by decide +kernel
theorem dL_law_780 : decode cL_law 780 = .ok (.iadd, 1) := by decide +kernel
theorem dL_law_781 : decode cL_law 781 = .ok (.iaload, 1) := by decide +kernel
theorem dL_law_782 : decode cL_law 782 = .ok (.invokevirtual 113, 3) := by decide +kernel
theorem dL_law_785 : decode cL_law 785 = .ok (.if_icmp .eq 181, 3) := by decide +kernel
theorem dL_law_788 : decode cL_law 788 = .ok (.iconst 0, 1) := by decide +kernel
theorem dL_law_789 : decode cL_law 789 = .ok (.ireturn, 1) := by decide +kernel
theorem dL_law_790 : decode cL_law 790 = .ok (.aload_n 1, 1) := by decide +kernel
theorem dL_law_791 : decode cL_law 791 = .ok (.invokevirtual 114, 3) := by decide +kernel
theorem dL_law_794 : decode cL_law 794 = .ok (.aload_n 2, 1) := by decide +kernel
theorem dL_law_795 : decode cL_law 795 = .ok (.invokevirtual 117, 3) := by decide +kernel
theorem dL_law_798 : decode cL_law 798 = .ok (.if_icmp .eq 168, 3) := by decide +kernel
theorem dL_law_801 : decode cL_law 801 = .ok (.iconst 0, 1) := by decide +kernel
theorem dL_law_802 : decode cL_law 802 = .ok (.ireturn, 1) := by decide +kernel
theorem dL_law_803 : decode cL_law 803 = .ok (.aload_n 1, 1) := by decide +kernel
theorem dL_law_804 : decode cL_law 804 = .ok (.aload_n 0, 1) := by decide +kernel
theorem dL_law_805 : decode cL_law 805 = .ok (.iload_n 3, 1) := by decide +kernel
theorem dL_law_806 : decode cL_law 806 = .ok (.iconst 1, 1) := by decide +kernel
theorem dL_law_807 : decode cL_law 807 = .ok (.iadd, 1) := by decide +kernel
theorem dL_law_808 : decode cL_law 808 = .ok (.iaload, 1) := by decide +kernel
theorem dL_law_809 : decode cL_law 809 = .ok (.aload_n 0, 1) := by decide +kernel
theorem dL_law_810 : decode cL_law 810 = .ok (.iload_n 3, 1) := by decide +kernel
theorem dL_law_811 : decode cL_law 811 = .ok (.iconst 2, 1) := by decide +kernel
theorem dL_law_812 : decode cL_law 812 = .ok (.iadd, 1) := by decide +kernel
theorem dL_law_813 : decode cL_law 813 = .ok (.iaload, 1) := by decide +kernel
theorem dL_law_814 : decode cL_law 814 = .ok (.invokevirtual 118, 3) := by decide +kernel
theorem dL_law_817 : decode cL_law 817 = .ok (.aload_n 2, 1) := by decide +kernel
theorem dL_law_818 : decode cL_law 818 = .ok (.aload_n 0, 1) := by decide +kernel
theorem dL_law_819 : decode cL_law 819 = .ok (.iload_n 3, 1) := by decide +kernel
theorem dL_law_820 : decode cL_law 820 = .ok (.iconst 1, 1) := by decide +kernel
theorem dL_law_821 : decode cL_law 821 = .ok (.iadd, 1) := by decide +kernel
theorem dL_law_822 : decode cL_law 822 = .ok (.iaload, 1) := by decide +kernel
theorem dL_law_823 : decode cL_law 823 = .ok (.aload_n 0, 1) := by decide +kernel
theorem dL_law_824 : decode cL_law 824 = .ok (.iload_n 3, 1) := by decide +kernel
theorem dL_law_825 : decode cL_law 825 = .ok (.iconst 2, 1) := by decide +kernel
theorem dL_law_826 : decode cL_law 826 = .ok (.iadd, 1) := by decide +kernel
theorem dL_law_827 : decode cL_law 827 = .ok (.iaload, 1) := by decide +kernel
theorem dL_law_828 : decode cL_law 828 = .ok (.invokevirtual 121, 3) := by decide +kernel
theorem dL_law_831 : decode cL_law 831 = .ok (.if_icmp .eq 135, 3) := by decide +kernel
theorem dL_law_834 : decode cL_law 834 = .ok (.iconst 0, 1) := by decide +kernel
theorem dL_law_835 : decode cL_law 835 = .ok (.ireturn, 1) := by decide +kernel
theorem dL_law_836 : decode cL_law 836 = .ok (.aload_n 1, 1) := by decide +kernel
theorem dL_law_837 : decode cL_law 837 = .ok (.aload_n 0, 1) := by decide +kernel
theorem dL_law_838 : decode cL_law 838 = .ok (.iload_n 3, 1) := by decide +kernel
theorem dL_law_839 : decode cL_law 839 = .ok (.iconst 1, 1) := by decide +kernel
theorem dL_law_840 : decode cL_law 840 = .ok (.iadd, 1) := by decide +kernel
theorem dL_law_841 : decode cL_law 841 = .ok (.iaload, 1) := by decide +kernel
theorem dL_law_842 : decode cL_law 842 = .ok (.invokevirtual 122, 3) := by decide +kernel
theorem dL_law_845 : decode cL_law 845 = .ok (.aload_n 2, 1) := by decide +kernel
theorem dL_law_846 : decode cL_law 846 = .ok (.aload_n 0, 1) := by decide +kernel
theorem dL_law_847 : decode cL_law 847 = .ok (.iload_n 3, 1) := by decide +kernel
theorem dL_law_848 : decode cL_law 848 = .ok (.iconst 1, 1) := by decide +kernel
theorem dL_law_849 : decode cL_law 849 = .ok (.iadd, 1) := by decide +kernel
theorem dL_law_850 : decode cL_law 850 = .ok (.iaload, 1) := by decide +kernel
theorem dL_law_851 : decode cL_law 851 = .ok (.invokevirtual 126, 3) := by decide +kernel
theorem dL_law_854 : decode cL_law 854 = .ok (.lcmp, 1) := by decide +kernel
theorem dL_law_855 : decode cL_law 855 = .ok (.ifCond .eq 111, 3) := by decide +kernel
theorem dL_law_858 : decode cL_law 858 = .ok (.iconst 0, 1) := by decide +kernel
theorem dL_law_859 : decode cL_law 859 = .ok (.ireturn, 1) := by decide +kernel
theorem dL_law_860 : decode cL_law 860 = .ok (.aload_n 1, 1) := by decide +kernel
theorem dL_law_861 : decode cL_law 861 = .ok (.aload_n 0, 1) := by decide +kernel
theorem dL_law_862 : decode cL_law 862 = .ok (.iload_n 3, 1) := by decide +kernel
theorem dL_law_863 : decode cL_law 863 = .ok (.iconst 1, 1) := by decide +kernel
theorem dL_law_864 : decode cL_law 864 = .ok (.iadd, 1) := by decide +kernel
theorem dL_law_865 : decode cL_law 865 = .ok (.iaload, 1) := by decide +kernel
theorem dL_law_866 : decode cL_law 866 = .ok (.invokevirtual 127, 3) := by decide +kernel
theorem dL_law_869 : decode cL_law 869 = .ok (.aload_n 2, 1) := by decide +kernel
theorem dL_law_870 : decode cL_law 870 = .ok (.aload_n 0, 1) := by decide +kernel
theorem dL_law_871 : decode cL_law 871 = .ok (.iload_n 3, 1) := by decide +kernel
theorem dL_law_872 : decode cL_law 872 = .ok (.iconst 1, 1) := by decide +kernel
theorem dL_law_873 : decode cL_law 873 = .ok (.iadd, 1) := by decide +kernel
theorem dL_law_874 : decode cL_law 874 = .ok (.iaload, 1) := by decide +kernel
theorem dL_law_875 : decode cL_law 875 = .ok (.invokevirtual 130, 3) := by decide +kernel
theorem dL_law_878 : decode cL_law 878 = .ok (.if_icmp .eq 88, 3) := by decide +kernel
theorem dL_law_881 : decode cL_law 881 = .ok (.iconst 0, 1) := by decide +kernel
theorem dL_law_882 : decode cL_law 882 = .ok (.ireturn, 1) := by decide +kernel
theorem dL_law_883 : decode cL_law 883 = .ok (.aload_n 1, 1) := by decide +kernel
theorem dL_law_884 : decode cL_law 884 = .ok (.aload_n 0, 1) := by decide +kernel
theorem dL_law_885 : decode cL_law 885 = .ok (.iload_n 3, 1) := by decide +kernel
theorem dL_law_886 : decode cL_law 886 = .ok (.iconst 1, 1) := by decide +kernel
theorem dL_law_887 : decode cL_law 887 = .ok (.iadd, 1) := by decide +kernel
theorem dL_law_888 : decode cL_law 888 = .ok (.iaload, 1) := by decide +kernel
theorem dL_law_889 : decode cL_law 889 = .ok (.invokevirtual 131, 3) := by decide +kernel
theorem dL_law_892 : decode cL_law 892 = .ok (.aload_n 2, 1) := by decide +kernel
theorem dL_law_893 : decode cL_law 893 = .ok (.aload_n 0, 1) := by decide +kernel
theorem dL_law_894 : decode cL_law 894 = .ok (.iload_n 3, 1) := by decide +kernel
theorem dL_law_895 : decode cL_law 895 = .ok (.iconst 1, 1) := by decide +kernel
theorem dL_law_896 : decode cL_law 896 = .ok (.iadd, 1) := by decide +kernel
theorem dL_law_897 : decode cL_law 897 = .ok (.iaload, 1) := by decide +kernel
theorem dL_law_898 : decode cL_law 898 = .ok (.invokevirtual 134, 3) := by decide +kernel
theorem dL_law_901 : decode cL_law 901 = .ok (.if_icmp .eq 65, 3) := by decide +kernel
theorem dL_law_904 : decode cL_law 904 = .ok (.iconst 0, 1) := by decide +kernel
theorem dL_law_905 : decode cL_law 905 = .ok (.ireturn, 1) := by decide +kernel
theorem dL_law_906 : decode cL_law 906 = .ok (.aload_n 1, 1) := by decide +kernel
theorem dL_law_907 : decode cL_law 907 = .ok (.aload_n 0, 1) := by decide +kernel
theorem dL_law_908 : decode cL_law 908 = .ok (.iload_n 3, 1) := by decide +kernel
theorem dL_law_909 : decode cL_law 909 = .ok (.iconst 1, 1) := by decide +kernel
theorem dL_law_910 : decode cL_law 910 = .ok (.iadd, 1) := by decide +kernel
theorem dL_law_911 : decode cL_law 911 = .ok (.iaload, 1) := by decide +kernel
theorem dL_law_912 : decode cL_law 912 = .ok (.invokevirtual 135, 3) := by decide +kernel
theorem dL_law_915 : decode cL_law 915 = .ok (.aload_n 2, 1) := by decide +kernel
theorem dL_law_916 : decode cL_law 916 = .ok (.aload_n 0, 1) := by decide +kernel
theorem dL_law_917 : decode cL_law 917 = .ok (.iload_n 3, 1) := by decide +kernel
theorem dL_law_918 : decode cL_law 918 = .ok (.iconst 1, 1) := by decide +kernel
theorem dL_law_919 : decode cL_law 919 = .ok (.iadd, 1) := by decide +kernel
theorem dL_law_920 : decode cL_law 920 = .ok (.iaload, 1) := by decide +kernel
theorem dL_law_921 : decode cL_law 921 = .ok (.invokevirtual 138, 3) := by decide +kernel
theorem dL_law_924 : decode cL_law 924 = .ok (.if_icmp .eq 42, 3) := by decide +kernel
theorem dL_law_927 : decode cL_law 927 = .ok (.iconst 0, 1) := by decide +kernel
theorem dL_law_928 : decode cL_law 928 = .ok (.ireturn, 1) := by decide +kernel
theorem dL_law_929 : decode cL_law 929 = .ok (.aload_n 1, 1) := by decide +kernel
theorem dL_law_930 : decode cL_law 930 = .ok (.aload_n 0, 1) := by decide +kernel
theorem dL_law_931 : decode cL_law 931 = .ok (.iload_n 3, 1) := by decide +kernel
theorem dL_law_932 : decode cL_law 932 = .ok (.iconst 1, 1) := by decide +kernel
theorem dL_law_933 : decode cL_law 933 = .ok (.iadd, 1) := by decide +kernel
theorem dL_law_934 : decode cL_law 934 = .ok (.iaload, 1) := by decide +kernel
theorem dL_law_935 : decode cL_law 935 = .ok (.invokevirtual 139, 3) := by decide +kernel
theorem dL_law_938 : decode cL_law 938 = .ok (.aload_n 2, 1) := by decide +kernel
theorem dL_law_939 : decode cL_law 939 = .ok (.aload_n 0, 1) := by decide +kernel
theorem dL_law_940 : decode cL_law 940 = .ok (.iload_n 3, 1) := by decide +kernel
theorem dL_law_941 : decode cL_law 941 = .ok (.iconst 1, 1) := by decide +kernel
theorem dL_law_942 : decode cL_law 942 = .ok (.iadd, 1) := by decide +kernel
theorem dL_law_943 : decode cL_law 943 = .ok (.iaload, 1) := by decide +kernel
theorem dL_law_944 : decode cL_law 944 = .ok (.invokevirtual 142, 3) := by decide +kernel
theorem dL_law_947 : decode cL_law 947 = .ok (.if_icmp .eq 19, 3) := by decide +kernel
theorem dL_law_950 : decode cL_law 950 = .ok (.iconst 0, 1) := by decide +kernel
theorem dL_law_951 : decode cL_law 951 = .ok (.ireturn, 1) := by decide +kernel
theorem dL_law_952 : decode cL_law 952 = .ok (.aload_n 1, 1) := by decide +kernel
theorem dL_law_953 : decode cL_law 953 = .ok (.invokevirtual 143, 3) := by decide +kernel
theorem dL_law_956 : decode cL_law 956 = .ok (.aload_n 2, 1) := by decide +kernel
theorem dL_law_957 : decode cL_law 957 = .ok (.invokevirtual 147, 3) := by decide +kernel
theorem dL_law_960 : decode cL_law 960 = .ok (.lcmp, 1) := by decide +kernel
theorem dL_law_961 : decode cL_law 961 = .ok (.ifCond .eq 5, 3) := by decide +kernel
theorem dL_law_964 : decode cL_law 964 = .ok (.iconst 0, 1) := by decide +kernel
theorem dL_law_965 : decode cL_law 965 = .ok (.ireturn, 1) := by decide +kernel
theorem dL_law_966 : decode cL_law 966 = .ok (.iinc 3 7, 3) := by decide +kernel
theorem dL_law_969 : decode cL_law 969 = .ok (.goto (-951), 3) := by decide +kernel
theorem dL_law_972 : decode cL_law 972 = .ok (.iconst 1, 1) := by decide +kernel
theorem dL_law_973 : decode cL_law 973 = .ok (.ireturn, 1) := by decide +kernel
end
section
/-! BASE: the words that every method has; a contract's form; rows over it -/
def GW : List Cond := lw_tbl.filter goodWord
theorem gw_good : ∀ w ∈ GW, (w.onTables && w.keeps) = true ∨ ∃ ty, w = .arrayClass ty := fun _ h => good_of_word (List.mem_filter.mp h).2
theorem gw_tbl : ∀ w ∈ GW, w ∈ lw_tbl := fun _ h => (List.mem_filter.mp h).1
theorem gw_mem {w : Cond} (i : Nat) (h : tables_1[i]? = some w) (hg : goodWord w = true) : w ∈ GW := List.mem_filter.mpr ⟨List.mem_append_right _ (List.mem_of_getElem? h), hg⟩
theorem gw_sel {w : Cond} (i : Nat) (h : (k2_sels lw_privs)[i]? = some w) (hg : goodWord w = true) : w ∈ GW := List.mem_filter.mpr ⟨List.mem_append_left _ (List.mem_of_getElem? h), hg⟩
theorem gw_in {Ts : List Cond} (hT : ∀ w ∈ GW, w ∈ Ts) : GoodIn Ts GW := fun w h => ⟨hT w h, gw_good w h⟩
theorem gw_cons {Ts : List Cond} {c : Cond} (hc : c ∈ GW) {ws : List Cond} (hT : ∀ w ∈ GW, w ∈ Ts) (h : GoodIn Ts ws) : GoodIn Ts (c :: ws) := fun w hw => (List.mem_cons.mp hw).elim (fun e => by rw [e]; exact ⟨hT c hc, gw_good c hc⟩) (h w)
/-- nest words -/
def isNest : Cond → Bool
  | .fieldLinkNest _ _ _ _ _ _ => true
  | .methodLinkNest _ _ _ _ => true
  | _ => false
def NW : List Cond := tables_1.filter isNest
theorem nw_mem {w : Cond} (i : Nat) (h : tables_1[i]? = some w) (hg : isNest w = true) : w ∈ NW := List.mem_filter.mpr ⟨List.mem_of_getElem? h, hg⟩
theorem nw_warm {w : Cond} (h : isNest w = true) {s U : State} (hW : s.WarmedH U.vm) (hZ : va_Nw w s) : va_Nw w U := by
  cases w <;> first | (cases h; done) | exact va_Nw.warmF hW hZ | exact va_Nw.warmM hW hZ
theorem nw_same {w : Cond} (h : isNest w = true) {s U : State} (hv : s.vm = U.vm) (hZ : va_Nw w s) : va_Nw w U := by
  cases w <;> first | (cases h; done) | exact va_Nw.same rfl hv hZ
/-- what is fixed: the classes' numbers and slots; the array classes; the addresses of static arrays and texts -/
abbrev Gm : Type := va_G × (Nat → ClassId) × (Nat → Nat)
def TY (Γ : Gm) : List (ClassId × FieldType) := [(Γ.2.1 0, .int), (Γ.2.1 1, .byte), (Γ.2.1 2, .boolean), (Γ.2.1 3, .object "ThrownOver$PlainKind"), (Γ.2.1 4, .object "ThrownOver$Cargo")]
def STA : List (String × List Int32) := [("SHIP_LEAST", [0, 0]), ("SHIP_MOST", [99, 200]), ("GOODS_LEAST", [0, 0, 0, 1, 0, 0]), ("GOODS_MOST", [5, 3, 2, 40, 60, 60]), ("SEEN_LEAST", [1, 0, 0]), ("SEEN_MOST", [40, 60, 3])]
def SBY : List (List Int32) := [[115, 104, 105, 112], [103, 111, 111, 100, 115], [111, 118, 101, 114]]
def SLN : List Nat := [4, 5, 4]
def SRF : List (Nat × String) := [(115, "ship"), (121, "goods"), (123, "over")]
/-- what lies outside and stays: nest words, static arrays, texts -/
def EF (Γ : Gm) (A : Nat → Prop) (U : State) (H : Heap) : Prop :=
  (∀ w ∈ NW, va_Nw w U) ∧
  (∀ (i : Nat) (q : String × List Int32), STA[i]? = some q → va_Z "ThrownOver" q.1 "[I" (.ref (Γ.2.2 i)) A U H ∧ va_T .int (Γ.2.2 i) q.2.length (fun j => .int (q.2.getD j 0)) A U H) ∧
  vk_S 3 SLN SBY (fun i => Γ.2.2 (10 + i)) (fun i => Γ.2.2 (20 + i)) A U H ∧
  (∀ (i : Nat) (q : Nat × String), SRF[i]? = some q → vk_R "ThrownOver$Text" q.1 q.2 (Γ.2.2 (10 + i)) U) ∧
  va_Z "java/lang/String" "COMPACT_STRINGS" "Z" (.int 1) A U H ∧
  va_Zq "jdk/internal/util/Preconditions" "SIOOBE_FORMATTER" "Ljava/util/function/BiFunction;" A U H
theorem EF.at {Γ : Gm} {A B : Nat → Prop} {s U : State} {H : Heap} {locs : List Loc} (h : EF Γ A s s.heap) (hS : va_S A s.heap H locs) (hB : ∀ q, B q → A q) (hU : U.heap = H) (hW : s.WarmedH U.vm) : EF Γ B U U.heap := by
  obtain ⟨h1, h2, h3, h4, h5, h6⟩ := h
  subst hU
  refine ⟨fun w hw => nw_warm (List.mem_filter.mp hw).2 hW (h1 w hw), fun i q hq => ?_, ?_, fun i q hq => (h4 i q hq).warm hW, ?_, ?_⟩
  · obtain ⟨a, b⟩ := h2 i q hq
    exact ⟨((a.kept hS.2.1).moved hW.alike).narrow hB, ((b.kept hS.2.1).moved hW.alike).narrow hB⟩
  · exact ((h3.kept hS.2.1).moved hW.alike).narrow hB
  · exact ((h5.kept hS.2.1).moved hW.alike).narrow hB
  · exact ((h6.kept hS.2.1).moved hW.alike).narrow hB
theorem EF.blind {Γ : Gm} {A : Nat → Prop} {U : State} {g : JFrame} {mk : MethodId} {a : Array Value} (h : EF Γ A U U.heap) : EF Γ A (U.calling g mk a) (U.calling g mk a).heap := by
  obtain ⟨h1, h2, h3, h4, h5, h6⟩ := h
  have hv : U.vm = (U.calling g mk a).vm := rfl
  have hr : U.vm.Alike (U.calling g mk a).vm := Vm.Alike.refl U.vm
  exact ⟨fun w hw => nw_same (List.mem_filter.mp hw).2 hv (h1 w hw), fun i q hq => ⟨(h2 i q hq).1.moved hr, (h2 i q hq).2.moved hr⟩, h3.moved hr, fun i q hq => (h4 i q hq).same hv.symm, h5.moved hr, h6.moved hr⟩
/-- a contract's start and end -/
def Pcw (Γ : Gm) (w0 : va_W) (sz : Nat) (U : State) : Prop := U.heap.size = sz ∧ va_P Γ.1 vwCl w0 U.heap ∧ va_K Γ.1 vwCl (TY Γ) U ∧ va_D (fun _ => True) w0 ∧ EF Γ (va_A w0 sz) U U.heap
def Bw (Γ : Gm) (w0 w1 : va_W) (sz : Nat) (_ : Unit) (t : State) : Prop := va_P Γ.1 vwCl w1 t.heap ∧ va_K Γ.1 vwCl (TY Γ) t ∧ va_D (va_A w0 sz) w1
abbrev QcI (Γ : Gm) (w0 w1 : va_W) (r : Int32) (sz : Nat) : Array Value → State → Outcome → State → Prop := va_Qi (fun (r' : Int32) (_ : Unit) => r' = r) (Bw Γ w0 w1 sz) (va_A w0 sz)
abbrev QcL (Γ : Gm) (w0 w1 : va_W) (r : Int64) (sz : Nat) : Array Value → State → Outcome → State → Prop := va_Ql (fun (r' : Int64) (_ : Unit) => r' = r) (Bw Γ w0 w1 sz) (va_A w0 sz)
abbrev QcV (Γ : Gm) (w0 w1 : va_W) (sz : Nat) : Array Value → State → Outcome → State → Prop := va_Qv (fun (_ : Unit) => True) (Bw Γ w0 w1 sz) (va_A w0 sz)
abbrev QcR (Γ : Gm) (w0 w1 : va_W) (r : Nat) (sz : Nat) : Array Value → State → Outcome → State → Prop := va_Qr (fun (_ : Unit) => True) (fun u a t => a = r ∧ Bw Γ w0 w1 sz u t) (va_A w0 sz)
def CI (l : Launch) (Γ : Gm) (y : MethodName) (ws : List Cond) (rm : Room) (av : List Value) (w0 w1 : va_W) (r : Int32) : Prop := ∀ sz, Met l y ws rm (va_Pc av (Pcw Γ w0 sz)) (QcI Γ w0 w1 r sz) 0 0 (va_A w0 sz)
def CL (l : Launch) (Γ : Gm) (y : MethodName) (ws : List Cond) (rm : Room) (av : List Value) (w0 w1 : va_W) (r : Int64) : Prop := ∀ sz, Met l y ws rm (va_Pc av (Pcw Γ w0 sz)) (QcL Γ w0 w1 r sz) 0 0 (va_A w0 sz)
def CV (l : Launch) (Γ : Gm) (y : MethodName) (ws : List Cond) (rm : Room) (av : List Value) (w0 w1 : va_W) : Prop := ∀ sz, Met l y ws rm (va_Pc av (Pcw Γ w0 sz)) (QcV Γ w0 w1 sz) 0 0 (va_A w0 sz)
def CR (l : Launch) (Γ : Gm) (y : MethodName) (ws : List Cond) (rm : Room) (av : List Value) (w0 w1 : va_W) (r : Nat) : Prop := ∀ sz, Met l y ws rm (va_Pc av (Pcw Γ w0 sz)) (QcR Γ w0 w1 r sz) 0 0 (va_A w0 sz)
theorem pcw_blind {Γ : Gm} {w0 : va_W} {sz : Nat} {av : List Value} : FrameBlind (va_Pc av (Pcw Γ w0 sz)) := fun a U g mk q => by
  obtain ⟨q0, q1, q2, q3, q4, q5⟩ := q
  exact ⟨q0, q1, q2, va_K.moved (u := U) (U := U.calling g mk a) (Vm.Alike.refl U.vm) q3, q4, q5.blind⟩
/-- what holds all through a method's body -/
def Cx (Γ : Gm) (p : Program) (s : State) (m : MethodId) (args : Array Value) (meth : Method) (c : Code) (own : String) (cc : ByteArray) (nL : Nat) (ret : Option FieldType) (w0 : va_W) : Prop :=
  p.tables.exec = Jvm.exec ∧ c.code = cc ∧ c.maxLocals = nL ∧ s.vm.findClass own = some m.cls ∧ (∀ w ∈ GW, w.before args s = true) ∧ meth.sig.returnType = ret ∧ meth.locks = false ∧ va_K Γ.1 vwCl (TY Γ) s ∧ EF Γ (va_A w0 s.heap.size) s s.heap
def Wd (Γ : Gm) (w0 : va_W) (s : State) (ws : va_W) (H : Heap) (locs : List Loc) : Prop := va_P Γ.1 vwCl ws H ∧ va_D (va_A w0 s.heap.size) ws ∧ va_S (va_A w0 s.heap.size) s.heap H locs
abbrev EI (Γ : Gm) (below : List Frame) (args : Array Value) (s : State) (w0 w1 : va_W) (r : Int32) : State → Prop := MQ below (QcI Γ w0 w1 r s.heap.size) args s 0 0 (va_A w0 s.heap.size)
abbrev EL (Γ : Gm) (below : List Frame) (args : Array Value) (s : State) (w0 w1 : va_W) (r : Int64) : State → Prop := MQ below (QcL Γ w0 w1 r s.heap.size) args s 0 0 (va_A w0 s.heap.size)
abbrev EV (Γ : Gm) (below : List Frame) (args : Array Value) (s : State) (w0 w1 : va_W) : State → Prop := MQ below (QcV Γ w0 w1 s.heap.size) args s 0 0 (va_A w0 s.heap.size)
abbrev ER (Γ : Gm) (below : List Frame) (args : Array Value) (s : State) (w0 w1 : va_W) (r : Nat) : State → Prop := MQ below (QcR Γ w0 w1 r s.heap.size) args s 0 0 (va_A w0 s.heap.size)
section BaseC
variable {l : Launch} {Γ : Gm} {y : MethodName} {rm : Room} {av : List Value} {w0 w1 : va_W} {cc : ByteArray} {maxL : Nat} {ret : Option FieldType}
theorem ofBody {Qc : Nat → Array Value → State → Outcome → State → Prop} {mc ms : Nat} (hy : plainName y.cls = true) (hn : (lg_sl av).length ≤ maxL)
    (body : ∀ (p : Program) (e : Env) (s : State) (m : MethodId) (below : List Frame) (meth : Method) (c : Code) (ls : Array Slot), meth.name = y.name → Cx Γ p s m av.toArray meth c y.cls cc maxL ret w0 → Wd Γ w0 s w0 s.heap [] → lv_has ls maxL (lv_args 0 av) →
      W p l e rm s m av.toArray below meth c s.heap [] 0 0 (MQ below (Qc s.heap.size) av.toArray s mc ms (va_A w0 s.heap.size)) (F0 m 0 ls [])) :
    ∀ sz, Met l y (Cond.code y cc maxL ret :: GW) rm (va_Pc av (Pcw Γ w0 sz)) (Qc sz) mc ms (va_A w0 sz) := by
  intro sz
  refine Met.ofW (cc := cc) (maxL := maxL) (ret := ret) hy rfl ?_
  intro p e s m args below meth c s₁ B hml hv
  obtain ⟨rfl, hsz, hP, hK, hD0, hE⟩ := hv
  subst hsz
  have hts := atoms_spec (ws := Cond.code y cc maxL ret :: GW) B.pre
  have hown : s.vm.findClass y.cls = some m.cls := findClass_of_methodNamed B.named
  rw [lg_entry_eq]
  exact body p e s m below meth c _ (name_of_methodNamed B.named B.method).1 ⟨B.exec, B.bytes, hml, hown, fun w hw => hts w (List.mem_cons_of_mem _ hw), B.returns, B.notSynchronized, hK, hE⟩ ⟨hP, hD0.self, va_S.rf⟩ (lv_entry av hn)
end BaseC
end
section
/-! ROWS over the contract's form -/
section Rw
variable {p : Program} {l : Launch} {e : Env} {R : Room} {s : State} {m : MethodId} {args : Array Value} {below : List Frame} {meth : Method} {c : Code} {H : Heap} {locs : List Loc} {Q : State → Prop} {cells slots : Nat}
variable {Γ : Gm} {own : String} {cc : ByteArray} {nL : Nat} {ret : Option FieldType} {w0 w1 ws ws' : va_W} {pc : Nat} {ls : Array Slot} {rest : List Value} {a : Nat}
theorem Cx.K (X : Cx Γ p s m args meth c own cc nL ret w0) : va_K Γ.1 vwCl (TY Γ) s := X.2.2.2.2.2.2.2.1
theorem Cx.E (X : Cx Γ p s m args meth c own cc nL ret w0) : EF Γ (va_A w0 s.heap.size) s s.heap := X.2.2.2.2.2.2.2.2
theorem Cx.fix (X : Cx Γ p s m args meth c own cc nL ret w0) : CallFix p m c cc nL s args GW own := ⟨X.1, X.2.1, X.2.2.1, X.2.2.2.1, X.2.2.2.2.1⟩
/-- a field is read -/
theorem x_get (X : Cx Γ p s m args meth c own cc nL ret w0) (Y : Wd Γ w0 s ws H locs) {C : String} {T : u_T} {N ci index : Nat} (hin : ∀ w ∈ u_ws C T N, w ∈ GW) (hc : vwCl[ci]? = some (C, T, N)) (k : Nat) (hk : k < N) (hd : (T k).1 = C) (hlink : Cond.fieldLink own index C (T k).2.1 (T k).2.2.1 ∈ GW) (q0 : Nat) {fs : List Value} (he : ws[q0]? = some (a, .inr (ci, fs))) {v : Value} (hv : fs[k]? = some v) (hdg : decode cc pc = .ok (.getfield index, 3))
    (kk : W p l e R s m args below meth c H locs cells slots Q (F0 m (pc + 3) ls (v :: rest))) : W p l e R s m args below meth c H locs cells slots Q (F0 m pc ls (.ref a :: rest)) :=
  va_get X.1 X.2.1 X.2.2.2.2.1 hin X.2.2.2.1 X.K Y.1 q0 he hc k hk (X.2.2.2.2.1 _ hlink) (fun x h => by rw [← hd]; exact h) hv hdg kk
/-- a field of a nest mate is read -/
theorem x_getN (X : Cx Γ p s m args meth c own cc nL ret w0) (Y : Wd Γ w0 s ws H locs) {C : String} {T : u_T} {N ci index : Nat} {host : String} (hin : ∀ w ∈ u_ws C T N, w ∈ GW) (hc : vwCl[ci]? = some (C, T, N)) (k : Nat) (hk : k < N) (hd : (T k).1 = C) (hlink : Cond.fieldLinkNest own index C (T k).2.1 (T k).2.2.1 host ∈ NW) (q0 : Nat) {fs : List Value} (he : ws[q0]? = some (a, .inr (ci, fs))) {v : Value} (hv : fs[k]? = some v) (hdg : decode cc pc = .ok (.getfield index, 3))
    (kk : W p l e R s m args below meth c H locs cells slots Q (F0 m (pc + 3) ls (v :: rest))) : W p l e R s m args below meth c H locs cells slots Q (F0 m pc ls (.ref a :: rest)) :=
  va_getN (host := host) X.1 X.2.1 X.2.2.2.2.1 hin X.2.2.2.1 X.K Y.1 q0 he hc k hk (va_Nw.use rfl (X.E.1 _ hlink)) (fun x h => by rw [← hd]; exact h) hv hdg kk
/-- a field is written -/
theorem x_put (X : Cx Γ p s m args meth c own cc nL ret w0) (Y : Wd Γ w0 s ws H locs) {C : String} {T : u_T} {N ci index : Nat} (hin : ∀ w ∈ u_ws C T N, w ∈ GW) (ty0 : Nat → FieldType) (hty : ∀ k, k < N → parseFieldDescriptor (T k).2.2.1 = some (ty0 k)) (hnm : ∀ a, a < N → ∀ b, b < N → a ≠ b → (T a).2.1 ≠ (T b).2.1) (hc : vwCl[ci]? = some (C, T, N)) (k : Nat) (hk : k < N) (hd : (T k).1 = C) (hlink : Cond.fieldLink own index C (T k).2.1 (T k).2.2.1 ∈ GW) (hfin : (T k).2.2.2 = false) (q0 : Nat) {fs : List Value} (he : ws[q0]? = some (a, .inr (ci, fs))) {v : Value} (hn : narrow (ty0 k) v = v) (hfit : fits (ty0 k) v = true) (hl : k < fs.length) (hw : ws.set q0 (a, .inr (ci, fs.set k v)) = ws') (hdg : decode cc pc = .ok (.putfield index, 3))
    (kk : ∀ (H1 : Heap) (locs1 : List Loc), Wd Γ w0 s ws' H1 locs1 → W p l e R s m args below meth c H1 locs1 cells slots Q (F0 m (pc + 3) ls rest)) : W p l e R s m args below meth c H locs cells slots Q (F0 m pc ls (v :: .ref a :: rest)) := by
  subst hw
  exact va_put X.1 X.2.1 X.2.2.2.2.1 hin ty0 hty hnm X.2.2.2.1 X.K Y.1 Y.2.1 Y.2.2 q0 he hc k hk (X.2.2.2.2.1 _ hlink) (fun x h => by rw [← hd]; exact h) hfin (hty k hk) hn hfit hl hdg (fun H1 L h1 h2 h3 => kk H1 L ⟨h1, h2, h3⟩)
theorem x_putN (X : Cx Γ p s m args meth c own cc nL ret w0) (Y : Wd Γ w0 s ws H locs) {C : String} {T : u_T} {N ci index : Nat} {host : String} (hin : ∀ w ∈ u_ws C T N, w ∈ GW) (ty0 : Nat → FieldType) (hty : ∀ k, k < N → parseFieldDescriptor (T k).2.2.1 = some (ty0 k)) (hnm : ∀ a, a < N → ∀ b, b < N → a ≠ b → (T a).2.1 ≠ (T b).2.1) (hc : vwCl[ci]? = some (C, T, N)) (k : Nat) (hk : k < N) (hd : (T k).1 = C) (hlink : Cond.fieldLinkNest own index C (T k).2.1 (T k).2.2.1 host ∈ NW) (hfin : (T k).2.2.2 = false) (q0 : Nat) {fs : List Value} (he : ws[q0]? = some (a, .inr (ci, fs))) {v : Value} (hn : narrow (ty0 k) v = v) (hfit : fits (ty0 k) v = true) (hl : k < fs.length) (hw : ws.set q0 (a, .inr (ci, fs.set k v)) = ws') (hdg : decode cc pc = .ok (.putfield index, 3))
    (kk : ∀ (H1 : Heap) (locs1 : List Loc), Wd Γ w0 s ws' H1 locs1 → W p l e R s m args below meth c H1 locs1 cells slots Q (F0 m (pc + 3) ls rest)) : W p l e R s m args below meth c H locs cells slots Q (F0 m pc ls (v :: .ref a :: rest)) := by
  subst hw
  exact va_putN (host := host) X.1 X.2.1 X.2.2.2.2.1 hin ty0 hty hnm X.2.2.2.1 X.K Y.1 Y.2.1 Y.2.2 q0 he hc k hk (va_Nw.use rfl (X.E.1 _ hlink)) (fun x h => by rw [← hd]; exact h) hfin (hty k hk) hn hfit hl hdg (fun H1 L h1 h2 h3 => kk H1 L ⟨h1, h2, h3⟩)
/-- array rows -/
def inb (i : Int32) (n : Nat) : Bool := !(decide (i < 0) || decide (n ≤ i.toNatClampNeg))
theorem inb_in {i : Int32} {n : Nat} (h : inb i n = true) : vp_in i n := by
  intro hc
  simp [inb] at h
  rcases hc with hc | hc
  · exact absurd hc (Int32.not_lt.mpr h.1)
  · omega
theorem x_iald (X : Cx Γ p s m args meth c own cc nL ret w0) (Y : Wd Γ w0 s ws H locs) (q0 : Nat) {n : Nat} {f : Nat → Int32} (ha : ws[q0]? = some (a, .inl (Γ.2.1 0, n, .inl f))) {i : Int32} {j : Nat} (hj : i.toNatClampNeg = j) (hin : inb i n = true) (hdg : decode cc pc = .ok (.iaload, 1))
    (kk : W p l e R s m args below meth c H locs cells slots Q (F0 m (pc + 1) ls (.int (f j) :: rest))) : W p l e R s m args below meth c H locs cells slots Q (F0 m pc ls (.int i :: .ref a :: rest)) := by
  subst hj
  exact va_iald X.1 X.2.1 X.K Y.1 q0 0 ha rfl (inb_in hin) hdg kk
theorem x_bald (X : Cx Γ p s m args meth c own cc nL ret w0) (Y : Wd Γ w0 s ws H locs) (q0 : Nat) {n : Nat} {f : Nat → Int32} (ha : ws[q0]? = some (a, .inl (Γ.2.1 1, n, .inl f))) {i : Int32} {j : Nat} (hj : i.toNatClampNeg = j) (hin : inb i n = true) (hdg : decode cc pc = .ok (.baload, 1))
    (kk : W p l e R s m args below meth c H locs cells slots Q (F0 m (pc + 1) ls (.int (f j) :: rest))) : W p l e R s m args below meth c H locs cells slots Q (F0 m pc ls (.int i :: .ref a :: rest)) := by
  subst hj
  exact va_bald X.1 X.2.1 X.K Y.1 q0 1 ha rfl (inb_in hin) hdg kk
theorem x_zald (X : Cx Γ p s m args meth c own cc nL ret w0) (Y : Wd Γ w0 s ws H locs) (q0 : Nat) {n : Nat} {f : Nat → Int32} (ha : ws[q0]? = some (a, .inl (Γ.2.1 2, n, .inl f))) {i : Int32} {j : Nat} (hj : i.toNatClampNeg = j) (hin : inb i n = true) (hdg : decode cc pc = .ok (.baload, 1))
    (kk : W p l e R s m args below meth c H locs cells slots Q (F0 m (pc + 1) ls (.int (f j) :: rest))) : W p l e R s m args below meth c H locs cells slots Q (F0 m pc ls (.int i :: .ref a :: rest)) := by
  subst hj
  exact va_zald X.1 X.2.1 X.K Y.1 q0 2 ha rfl (inb_in hin) hdg kk
theorem x_iast (X : Cx Γ p s m args meth c own cc nL ret w0) (Y : Wd Γ w0 s ws H locs) (q0 : Nat) {n : Nat} {f : Nat → Int32} (ha : ws[q0]? = some (a, .inl (Γ.2.1 0, n, .inl f))) {i x : Int32} {j : Nat} (hj : i.toNatClampNeg = j) (hin : inb i n = true) (hw : ws.set q0 (a, .inl (Γ.2.1 0, n, .inl (upd f j x))) = ws') (hdg : decode cc pc = .ok (.iastore, 1))
    (kk : ∀ (H1 : Heap) (locs1 : List Loc), Wd Γ w0 s ws' H1 locs1 → W p l e R s m args below meth c H1 locs1 cells slots Q (F0 m (pc + 1) ls rest)) : W p l e R s m args below meth c H locs cells slots Q (F0 m pc ls (.int x :: .int i :: .ref a :: rest)) := by
  subst hj; subst hw
  exact va_iast X.1 X.2.1 X.K Y.1 Y.2.1 Y.2.2 q0 0 ha rfl (inb_in hin) hdg (fun H1 L h1 h2 h3 => kk H1 L ⟨h1, h2, h3⟩)
theorem x_bast (X : Cx Γ p s m args meth c own cc nL ret w0) (Y : Wd Γ w0 s ws H locs) (q0 : Nat) {n : Nat} {f : Nat → Int32} (ha : ws[q0]? = some (a, .inl (Γ.2.1 1, n, .inl f))) {i x : Int32} {j : Nat} (hj : i.toNatClampNeg = j) (hin : inb i n = true) (hw : ws.set q0 (a, .inl (Γ.2.1 1, n, .inl (upd f j (vp_nar .byte x)))) = ws') (hdg : decode cc pc = .ok (.bastore, 1))
    (kk : ∀ (H1 : Heap) (locs1 : List Loc), Wd Γ w0 s ws' H1 locs1 → W p l e R s m args below meth c H1 locs1 cells slots Q (F0 m (pc + 1) ls rest)) : W p l e R s m args below meth c H locs cells slots Q (F0 m pc ls (.int x :: .int i :: .ref a :: rest)) := by
  subst hj; subst hw
  exact va_bast X.1 X.2.1 X.K Y.1 Y.2.1 Y.2.2 q0 1 ha rfl (inb_in hin) hdg (fun H1 L h1 h2 h3 => kk H1 L ⟨h1, h2, h3⟩)
theorem x_zast (X : Cx Γ p s m args meth c own cc nL ret w0) (Y : Wd Γ w0 s ws H locs) (q0 : Nat) {n : Nat} {f : Nat → Int32} (ha : ws[q0]? = some (a, .inl (Γ.2.1 2, n, .inl f))) {i x : Int32} {j : Nat} (hj : i.toNatClampNeg = j) (hin : inb i n = true) (hw : ws.set q0 (a, .inl (Γ.2.1 2, n, .inl (upd f j (vp_nar .boolean x)))) = ws') (hdg : decode cc pc = .ok (.bastore, 1))
    (kk : ∀ (H1 : Heap) (locs1 : List Loc), Wd Γ w0 s ws' H1 locs1 → W p l e R s m args below meth c H1 locs1 cells slots Q (F0 m (pc + 1) ls rest)) : W p l e R s m args below meth c H locs cells slots Q (F0 m pc ls (.int x :: .int i :: .ref a :: rest)) := by
  subst hj; subst hw
  exact va_zast X.1 X.2.1 X.K Y.1 Y.2.1 Y.2.2 q0 2 ha rfl (inb_in hin) hdg (fun H1 L h1 h2 h3 => kk H1 L ⟨h1, h2, h3⟩)
theorem x_alen (X : Cx Γ p s m args meth c own cc nL ret w0) (Y : Wd Γ w0 s ws H locs) (q0 t0 : Nat) {cA : ClassId} {x : vp_A} (ha : ws[q0]? = some (a, .inl (cA, x))) {ty : FieldType} (ht : (TY Γ)[t0]? = some (cA, ty)) {v : Int32} (hv : Int32.ofNat x.1 = v) (hdg : decode cc pc = .ok (.arraylength, 1))
    (kk : W p l e R s m args below meth c H locs cells slots Q (F0 m (pc + 1) ls (.int v :: rest))) : W p l e R s m args below meth c H locs cells slots Q (F0 m pc ls (.ref a :: rest)) :=
  va_alen X.1 X.2.1 X.K Y.1 q0 t0 ha ht hv hdg kk
/-- ends -/
theorem x_iret {r : Int32} (X : Cx Γ p s m args meth c own cc nL (some .int) w0) (Y : Wd Γ w0 s w1 H locs) (hdg : decode cc pc = .ok (.ireturn, 1)) : W p l e R s m args below meth c H locs 0 0 (EI Γ below args s w0 w1 r) (F0 m pc ls [.int r]) :=
  W.iret (v := r) X.1 X.2.1 X.2.2.2.2.2.1 (fun t ht hW => ⟨⟨r, (), rfl, rfl, by rw [ht]; exact Y.1, va_K.moved hW.alike X.K, Y.2.1⟩, Y.2.2.F ht⟩) Y.2.2.2.2 hdg X.2.2.2.2.2.2.1
theorem x_zret {r : Int32} {ty : FieldType} (X : Cx Γ p s m args meth c own cc nL (some ty) w0) (Y : Wd Γ w0 s w1 H locs) (hn : narrow ty (.int r) = .int r) (hdg : decode cc pc = .ok (.ireturn, 1)) : W p l e R s m args below meth c H locs 0 0 (EI Γ below args s w0 w1 r) (F0 m pc ls [.int r]) :=
  W.zret (v := r) X.1 X.2.1 X.2.2.2.2.2.1 hn (fun t ht hW => ⟨⟨r, (), rfl, rfl, by rw [ht]; exact Y.1, va_K.moved hW.alike X.K, Y.2.1⟩, Y.2.2.F ht⟩) Y.2.2.2.2 hdg X.2.2.2.2.2.2.1
theorem x_lret {r : Int64} (X : Cx Γ p s m args meth c own cc nL (some .long) w0) (Y : Wd Γ w0 s w1 H locs) (hdg : decode cc pc = .ok (.lreturn, 1)) : W p l e R s m args below meth c H locs 0 0 (EL Γ below args s w0 w1 r) (F0 m pc ls [.long r]) :=
  W.lret (v := r) X.1 X.2.1 X.2.2.2.2.2.1 (fun t ht hW => ⟨⟨r, (), rfl, rfl, by rw [ht]; exact Y.1, va_K.moved hW.alike X.K, Y.2.1⟩, Y.2.2.F ht⟩) Y.2.2.2.2 hdg X.2.2.2.2.2.2.1
theorem x_vret (X : Cx Γ p s m args meth c own cc nL none w0) (Y : Wd Γ w0 s w1 H locs) (hdg : decode cc pc = .ok (.return_, 1)) : W p l e R s m args below meth c H locs 0 0 (EV Γ below args s w0 w1) (F0 m pc ls []) :=
  W.vret X.1 X.2.1 X.2.2.2.2.2.1 (fun t ht hW => ⟨⟨(), rfl, trivial, by rw [ht]; exact Y.1, va_K.moved hW.alike X.K, Y.2.1⟩, Y.2.2.F ht⟩) Y.2.2.2.2 hdg X.2.2.2.2.2.2.1
theorem x_aret {r : Nat} {nm : String} (X : Cx Γ p s m args meth c own cc nL (some (.object nm)) w0) (Y : Wd Γ w0 s w1 H locs) (hdg : decode cc pc = .ok (.areturn, 1)) : W p l e R s m args below meth c H locs 0 0 (ER Γ below args s w0 w1 r) (F0 m pc ls [.ref r]) :=
  W.aret (v := .ref r) X.1 X.2.1 X.2.2.2.2.2.1 (Or.inl ⟨nm, rfl⟩) (Or.inr ⟨r, rfl⟩) (fun t ht hW => ⟨⟨(), r, rfl, trivial, rfl, by rw [ht]; exact Y.1, va_K.moved hW.alike X.K, Y.2.1⟩, Y.2.2.F ht⟩) Y.2.2.2.2 hdg X.2.2.2.2.2.2.1
end Rw
/-- pure helpers -/
def ck {α : Type} (b : Bool) (x : Option α) : Option α := match b with
  | true => x
  | false => none
theorem ck_some {α : Type} {b : Bool} {x : Option α} {r : α} (h : ck b x = some r) : b = true ∧ x = some r := by
  cases b
  · cases h
  · exact ⟨rfl, h⟩
theorem ite_t {α : Type} {c : Prop} [Decidable c] {x y : Option α} {r : α} (h : (if c then x else y) = some r) (hc : c) : x = some r := by rwa [if_pos hc] at h
theorem ite_f {α : Type} {c : Prop} [Decidable c] {x y : Option α} {r : α} (h : (if c then x else y) = some r) (hc : ¬ c) : y = some r := by rwa [if_neg hc] at h
/-- a name for a number -/
def bnd {α β : Type} (x : α) (k : α → Option β) : Option β := k x
def bo (x : Int32) : Bool := decide (x = 0) || decide (x = 1)
theorem bo_nar {x : Int32} (h : bo x = true) : narrow .boolean (.int x) = .int x := by
  simp [bo] at h
  rcases h with rfl | rfl <;> rfl
theorem bo_fit {x : Int32} (h : bo x = true) : fits .boolean (.int x) = true := by
  simp [bo] at h
  rcases h with rfl | rfl <;> rfl
def bd1 {α β : Type} (o : Option α) (k : α → Option β) : Option β := match o with
  | none => none
  | some a => k a
def bd2 {α1 α2 β : Type} (o : Option (α1 × α2)) (k : α1 → α2 → Option β) : Option β := match o with
  | none => none
  | some (a1, a2) => k a1 a2
def bd3 {α1 α2 α3 β : Type} (o : Option (α1 × α2 × α3)) (k : α1 → α2 → α3 → Option β) : Option β := match o with
  | none => none
  | some (a1, a2, a3) => k a1 a2 a3
def bd4 {α1 α2 α3 α4 β : Type} (o : Option (α1 × α2 × α3 × α4)) (k : α1 → α2 → α3 → α4 → Option β) : Option β := match o with
  | none => none
  | some (a1, a2, a3, a4) => k a1 a2 a3 a4
def bd5 {α1 α2 α3 α4 α5 β : Type} (o : Option (α1 × α2 × α3 × α4 × α5)) (k : α1 → α2 → α3 → α4 → α5 → Option β) : Option β := match o with
  | none => none
  | some (a1, a2, a3, a4, a5) => k a1 a2 a3 a4 a5
def bd6 {α1 α2 α3 α4 α5 α6 β : Type} (o : Option (α1 × α2 × α3 × α4 × α5 × α6)) (k : α1 → α2 → α3 → α4 → α5 → α6 → Option β) : Option β := match o with
  | none => none
  | some (a1, a2, a3, a4, a5, a6) => k a1 a2 a3 a4 a5 a6
def bd7 {α1 α2 α3 α4 α5 α6 α7 β : Type} (o : Option (α1 × α2 × α3 × α4 × α5 × α6 × α7)) (k : α1 → α2 → α3 → α4 → α5 → α6 → α7 → Option β) : Option β := match o with
  | none => none
  | some (a1, a2, a3, a4, a5, a6, a7) => k a1 a2 a3 a4 a5 a6 a7
def bd8 {α1 α2 α3 α4 α5 α6 α7 α8 β : Type} (o : Option (α1 × α2 × α3 × α4 × α5 × α6 × α7 × α8)) (k : α1 → α2 → α3 → α4 → α5 → α6 → α7 → α8 → Option β) : Option β := match o with
  | none => none
  | some (a1, a2, a3, a4, a5, a6, a7, a8) => k a1 a2 a3 a4 a5 a6 a7 a8
theorem bd1_some {α β : Type} {o : Option α} {k : α → Option β} {r : β} (h : bd1 o k = some r) : ∃ a, o = some a ∧ k a = some r := by
  cases o with
  | none => cases h
  | some a => exact ⟨a, rfl, h⟩
theorem bd2_some {α1 α2 β : Type} {o : Option (α1 × α2)} {k : α1 → α2 → Option β} {r : β} (h : bd2 o k = some r) : ∃ a1 a2, o = some (a1, a2) ∧ k a1 a2 = some r := by
  cases o with
  | none => cases h
  | some a => exact ⟨_, _, rfl, h⟩
theorem bd3_some {α1 α2 α3 β : Type} {o : Option (α1 × α2 × α3)} {k : α1 → α2 → α3 → Option β} {r : β} (h : bd3 o k = some r) : ∃ a1 a2 a3, o = some (a1, a2, a3) ∧ k a1 a2 a3 = some r := by
  cases o with
  | none => cases h
  | some a => exact ⟨_, _, _, rfl, h⟩
theorem bd4_some {α1 α2 α3 α4 β : Type} {o : Option (α1 × α2 × α3 × α4)} {k : α1 → α2 → α3 → α4 → Option β} {r : β} (h : bd4 o k = some r) : ∃ a1 a2 a3 a4, o = some (a1, a2, a3, a4) ∧ k a1 a2 a3 a4 = some r := by
  cases o with
  | none => cases h
  | some a => exact ⟨_, _, _, _, rfl, h⟩
theorem bd5_some {α1 α2 α3 α4 α5 β : Type} {o : Option (α1 × α2 × α3 × α4 × α5)} {k : α1 → α2 → α3 → α4 → α5 → Option β} {r : β} (h : bd5 o k = some r) : ∃ a1 a2 a3 a4 a5, o = some (a1, a2, a3, a4, a5) ∧ k a1 a2 a3 a4 a5 = some r := by
  cases o with
  | none => cases h
  | some a => exact ⟨_, _, _, _, _, rfl, h⟩
theorem bd6_some {α1 α2 α3 α4 α5 α6 β : Type} {o : Option (α1 × α2 × α3 × α4 × α5 × α6)} {k : α1 → α2 → α3 → α4 → α5 → α6 → Option β} {r : β} (h : bd6 o k = some r) : ∃ a1 a2 a3 a4 a5 a6, o = some (a1, a2, a3, a4, a5, a6) ∧ k a1 a2 a3 a4 a5 a6 = some r := by
  cases o with
  | none => cases h
  | some a => exact ⟨_, _, _, _, _, _, rfl, h⟩
theorem bd7_some {α1 α2 α3 α4 α5 α6 α7 β : Type} {o : Option (α1 × α2 × α3 × α4 × α5 × α6 × α7)} {k : α1 → α2 → α3 → α4 → α5 → α6 → α7 → Option β} {r : β} (h : bd7 o k = some r) : ∃ a1 a2 a3 a4 a5 a6 a7, o = some (a1, a2, a3, a4, a5, a6, a7) ∧ k a1 a2 a3 a4 a5 a6 a7 = some r := by
  cases o with
  | none => cases h
  | some a => exact ⟨_, _, _, _, _, _, _, rfl, h⟩
theorem bd8_some {α1 α2 α3 α4 α5 α6 α7 α8 β : Type} {o : Option (α1 × α2 × α3 × α4 × α5 × α6 × α7 × α8)} {k : α1 → α2 → α3 → α4 → α5 → α6 → α7 → α8 → Option β} {r : β} (h : bd8 o k = some r) : ∃ a1 a2 a3 a4 a5 a6 a7 a8, o = some (a1, a2, a3, a4, a5, a6, a7, a8) ∧ k a1 a2 a3 a4 a5 a6 a7 a8 = some r := by
  cases o with
  | none => cases h
  | some a => exact ⟨_, _, _, _, _, _, _, _, rfl, h⟩
end
section
/-! CALLS over the contract's form -/
theorem fm_of_map {α β : Type} {f : α → Option β} : ∀ {is : List α} {wc : List β}, is.map f = wc.map some → is.filterMap f = wc
  | [], [], _ => rfl
  | [], _ :: _, h => by simp at h
  | _ :: _, [], h => by simp at h
  | i :: is, c :: wc, h => by
    simp only [List.map_cons, List.cons.injEq] at h
    rw [List.filterMap_cons, h.1]
    exact congrArg (c :: ·) (fm_of_map h.2)
theorem wA_hi {w0 : va_W} {sz : Nat} : ∀ q, sz ≤ q → va_A w0 sz q := fun _ h => Or.inr h
section Cl
variable {p : Program} {l : Launch} {e : Env} {R : Room} {s : State} {m : MethodId} {args : Array Value} {below : List Frame} {meth : Method} {c : Code} {H : Heap} {locs : List Loc} {Q : State → Prop} {cells slots : Nat}
variable {Γ : Gm} {own : String} {cc : ByteArray} {nL : Nat} {ret : Option FieldType} {w0 w1 ws ws' wc wr : va_W} {pc : Nat} {ls : Array Slot} {st0 rest As av : List Value} {a b : Nat}
variable {y : MethodName} {bs : ByteArray} {mL index n : Nat} {rt : Option FieldType} {rm : Room} {C : String} {Qc : Nat → Array Value → State → Outcome → State → Prop} {mc ms : Nat}
/-- what a callee asks, of a part of the world, of all of it, of none -/
theorem c_pre (X : Cx Γ p s m args meth c own cc nL ret w0) (Y : Wd Γ w0 s ws H locs) (isC : List Nat) (hC : isC.map (fun i => ws[i]?) = wc.map some) (hnC : va_nd isC = true) : ∀ U : State, U.heap = H → s.WarmedH U.vm → va_Pc av (Pcw Γ wc H.size) av.toArray U := by
  intro U hU hW
  have hs := fm_of_map hC
  exact ⟨rfl, by rw [hU], by rw [hU]; exact Y.1.sub isC hs, va_K.moved hW.alike X.K, (Y.2.1.sub isC hnC hC).weaken (fun _ _ _ _ => trivial), X.E.at Y.2.2 (va_free Y.2.1 Y.2.2 wA_hi isC hC) hU hW⟩
theorem fr_S (Y : Wd Γ w0 s ws H locs) : ∀ q, va_A ws H.size q → va_A w0 s.heap.size q := fun q h => h.elim (fun ⟨k, e, hk⟩ => Y.2.1.2 k (q, e) hk) (fun h => Or.inr (Nat.le_trans Y.2.2.1 h))
theorem fr_0 (Y : Wd Γ w0 s ws H locs) : ∀ q, va_A [] H.size q → va_A w0 s.heap.size q := fun q h => h.elim (fun ⟨k, e, hk⟩ => by simp at hk) (fun h => Or.inr (Nat.le_trans Y.2.2.1 h))
theorem c_preS (X : Cx Γ p s m args meth c own cc nL ret w0) (Y : Wd Γ w0 s ws H locs) : ∀ U : State, U.heap = H → s.WarmedH U.vm → va_Pc av (Pcw Γ ws H.size) av.toArray U := by
  intro U hU hW
  exact ⟨rfl, by rw [hU], by rw [hU]; exact Y.1, va_K.moved hW.alike X.K, Y.2.1.weaken (fun _ _ _ _ => trivial), X.E.at Y.2.2 (fr_S Y) hU hW⟩
theorem c_pre0 (X : Cx Γ p s m args meth c own cc nL ret w0) (Y : Wd Γ w0 s ws H locs) : ∀ U : State, U.heap = H → s.WarmedH U.vm → va_Pc av (Pcw Γ [] H.size) av.toArray U := by
  intro U hU hW
  exact ⟨rfl, by rw [hU], fun k q h => by simp at h, va_K.moved hW.alike X.K, ⟨fun i j p q h => by simp at h, fun k q h => by simp at h⟩, X.E.at Y.2.2 (fr_0 Y) hU hW⟩
/-- what comes back -/
def Bk (Γ : Gm) (w0 : va_W) (s : State) (H : Heap) (wc w1 ws' : va_W) : Prop := (∀ q, va_A wc H.size q → va_A w0 s.heap.size q) ∧ ∀ (t : State) (H1 : Heap) (locs1 : List Loc), t.heap = H1 → Bw Γ wc w1 H.size () t → (∀ q : Nat, q < H.size → ¬ va_A wc H.size q → H1[q]? = H[q]?) → va_S (va_A w0 s.heap.size) s.heap H1 locs1 → Wd Γ w0 s ws' H1 locs1
theorem bk (Y : Wd Γ w0 s ws H locs) (isC isR pm : List Nat) (hC : isC.map (fun i => ws[i]?) = wc.map some) (hR : isR.map (fun i => ws[i]?) = wr.map some) (hnR : va_nd isR = true) (hdis : ∀ i ∈ isR, i ∉ isC) (hnp : va_nd pm = true) (hp : pm.map (fun i => (wr ++ w1)[i]?) = ws'.map some) : Bk Γ w0 s H wc w1 ws' := by
  have hF := va_free Y.2.1 Y.2.2 wA_hi isC hC
  refine ⟨hF, fun t H1 locs1 ht hB hk hS => ?_⟩
  obtain ⟨hP1, hK1, hD1⟩ := hB
  rw [ht] at hP1
  obtain ⟨hP, hD⟩ := va_join (wr := wr) (w1 := w1) Y.1 Y.2.1 isC isR hC hR hnR hdis hk hF hP1 hD1
  exact ⟨hP.sub pm (fm_of_map hp), hD.sub pm hnp hp, hS⟩
theorem bkS (Y : Wd Γ w0 s ws H locs) : Bk Γ w0 s H ws w1 w1 := by
  refine ⟨fr_S Y, fun t H1 locs1 ht hB hk hS => ?_⟩
  obtain ⟨hP1, hK1, hD1⟩ := hB
  rw [ht] at hP1
  exact ⟨hP1, hD1.weaken (fun _ q _ h => fr_S Y _ h), hS⟩
theorem bk0 (Y : Wd Γ w0 s ws H locs) : Bk Γ w0 s H [] [] ws := by
  refine ⟨fr_0 Y, fun t H1 locs1 ht hB hk hS => ⟨fun k q hq => ?_, Y.2.1, hS⟩⟩
  have h0 := Y.1 k q hq
  exact h0.kept (hk q.1 h0.lt (fun h => h.elim (fun ⟨k, e, hk⟩ => by simp at hk) (fun h2 => absurd h0.lt (Nat.not_lt.mpr h2))))
/-- an own method is called on an object -/
theorem r_V (X : Cx Γ p s m args meth c own cc nL ret w0) (hpre : ∀ U : State, U.heap = H → s.WarmedH U.vm → va_Pc (.ref b :: As) (Pcw Γ wc H.size) (Value.ref b :: As).toArray U) (hM : ∀ sz, Met l y (Cond.code y bs mL rt :: GW) rm (va_Pc (.ref b :: As) (Pcw Γ wc sz)) (Qc sz) mc ms (va_A wc sz)) (cw : CallW R s args own C index y bs mL rt (Cond.code y bs mL rt :: GW) rm mc ms n)
    (hrec : ∃ cell : Cell, H[b]? = some cell ∧ cell.vm.isStatics = false ∧ s.vm.findClass C = some cell.cls) (hn : As.length = n) (hsize : ls.size = nL) (hW : (rest.map fun v => v.category).sum ≤ 8) (hst : st0 = As.reverse ++ .ref b :: rest) (hdg : decode cc pc = .ok (.invokevirtual index, 3)) (hf : cells + mc ≤ R.cells ∧ slots + ms ≤ R.slots) :
    va_Run p l e R s m args below meth c H locs cells slots mc ms (F0 m pc ls st0) rest (Qc H.size (Value.ref b :: As).toArray) (va_A wc H.size) :=
  va_runV (g := F0 m pc ls st0) X.fix (hM H.size) cw ⟨pcw_blind, hrec, hpre⟩ rfl hn hsize hst (lv_room hW) hdg hf
theorem r_VN {host : String} (X : Cx Γ p s m args meth c own cc nL ret w0) (hpre : ∀ U : State, U.heap = H → s.WarmedH U.vm → va_Pc (.ref b :: As) (Pcw Γ wc H.size) (Value.ref b :: As).toArray U) (hM : ∀ sz, Met l y (Cond.code y bs mL rt :: GW) rm (va_Pc (.ref b :: As) (Pcw Γ wc sz)) (Qc sz) mc ms (va_A wc sz)) (cw : va_CN R s args own index y host bs mL rt (Cond.code y bs mL rt :: GW) rm mc ms n ∧ (Cond.instanceMethod y).before args s = true ∧ (Cond.selects C y y).before args s = true)
    (hrec : ∃ cell : Cell, H[b]? = some cell ∧ cell.vm.isStatics = false ∧ s.vm.findClass C = some cell.cls) (hn : As.length = n) (hsize : ls.size = nL) (hW : (rest.map fun v => v.category).sum ≤ 8) (hst : st0 = As.reverse ++ .ref b :: rest) (hdg : decode cc pc = .ok (.invokevirtual index, 3)) (hf : cells + mc ≤ R.cells ∧ slots + ms ≤ R.slots) :
    va_Run p l e R s m args below meth c H locs cells slots mc ms (F0 m pc ls st0) rest (Qc H.size (Value.ref b :: As).toArray) (va_A wc H.size) :=
  va_runVN (g := F0 m pc ls st0) X.fix (hM H.size) cw ⟨pcw_blind, hrec, hpre⟩ rfl hn hsize hst (lv_room hW) hdg hf
theorem r_S (X : Cx Γ p s m args meth c own cc nL ret w0) (hpre : ∀ U : State, U.heap = H → s.WarmedH U.vm → va_Pc As (Pcw Γ wc H.size) As.toArray U) (hM : ∀ sz, Met l y (Cond.code y bs mL rt :: GW) rm (va_Pc As (Pcw Γ wc sz)) (Qc sz) mc ms (va_A wc sz)) (cw : CallB R s args own index y bs mL rt (Cond.code y bs mL rt :: GW) rm mc ms n ∧ (Cond.static y).before args s = true)
    (hn : As.length = n) (hsize : ls.size = nL) (hW : (rest.map fun v => v.category).sum ≤ 8) (hst : st0 = As.reverse ++ rest) (hdg : decode cc pc = .ok (.invokestatic index, 3)) (hf : cells + mc ≤ R.cells ∧ slots + ms ≤ R.slots) :
    va_Run p l e R s m args below meth c H locs cells slots mc ms (F0 m pc ls st0) rest (Qc H.size As.toArray) (va_A wc H.size) :=
  va_runS (g := F0 m pc ls st0) X.fix (hM H.size) cw ⟨pcw_blind, hpre⟩ rfl hn hsize hst (lv_room hW) hdg hf
theorem r_SN {host : String} (X : Cx Γ p s m args meth c own cc nL ret w0) (hpre : ∀ U : State, U.heap = H → s.WarmedH U.vm → va_Pc As (Pcw Γ wc H.size) As.toArray U) (hM : ∀ sz, Met l y (Cond.code y bs mL rt :: GW) rm (va_Pc As (Pcw Γ wc sz)) (Qc sz) mc ms (va_A wc sz)) (cw : va_CN R s args own index y host bs mL rt (Cond.code y bs mL rt :: GW) rm mc ms n ∧ (Cond.static y).before args s = true ∧ True)
    (hn : As.length = n) (hsize : ls.size = nL) (hW : (rest.map fun v => v.category).sum ≤ 8) (hst : st0 = As.reverse ++ rest) (hdg : decode cc pc = .ok (.invokestatic index, 3)) (hf : cells + mc ≤ R.cells ∧ slots + ms ≤ R.slots) :
    va_Run p l e R s m args below meth c H locs cells slots mc ms (F0 m pc ls st0) rest (Qc H.size As.toArray) (va_A wc H.size) :=
  va_runSN (g := F0 m pc ls st0) X.fix (hM H.size) cw ⟨pcw_blind, hpre⟩ rfl hn hsize hst (lv_room hW) hdg hf
/-- the callee's words among ours -/
theorem cw_V (X : Cx Γ p s m args meth c own cc nL ret w0) (h1 : Cond.methodLink own index y ∈ GW) (h2 : Cond.instanceMethod y ∈ GW) (h3 : Cond.selects C y y ∈ GW) (h4 : Cond.initialized C ∈ GW) (h5 : Cond.code y bs mL rt ∈ GW) (hd : y.cls = C ∧ y.cls ≠ "java/lang/invoke/MethodHandle" ∧ y.cls ≠ "java/lang/invoke/VarHandle" ∧ (parseMethodDescriptor y.desc).map (fun d => d.parameters.length) = some n) (hrc : rm.cells = mc) (hrs : rm.slots = ms) (hR : rm.frames + 1 ≤ R.frames ∧ 8 + (mL + 11) + rm.locals ≤ R.locals) :
    CallW R s args own C index y bs mL rt (Cond.code y bs mL rt :: GW) rm mc ms n :=
  cwV n X.2.2.2.2.1 (gw_cons h1 (fun _ h => h) (gw_cons h2 (fun _ h => h) (gw_cons h3 (fun _ h => h) (gw_cons h4 (fun _ h => h) (gw_cons h5 (fun _ h => h) (gw_in (fun _ h => h))))))) rfl hrc hrs hd hR
theorem cw_S (X : Cx Γ p s m args meth c own cc nL ret w0) (h1 : Cond.methodLink own index y ∈ GW) (h2 : Cond.static y ∈ GW) (h4 : Cond.initialized y.cls ∈ GW) (h5 : Cond.code y bs mL rt ∈ GW) (hd : y.cls ≠ "java/lang/invoke/MethodHandle" ∧ y.cls ≠ "java/lang/invoke/VarHandle" ∧ (parseMethodDescriptor y.desc).map (fun d => d.parameters.length) = some n) (hrc : rm.cells = mc) (hrs : rm.slots = ms) (hR : rm.frames + 1 ≤ R.frames ∧ 8 + (mL + 11) + rm.locals ≤ R.locals) :
    CallB R s args own index y bs mL rt (Cond.code y bs mL rt :: GW) rm mc ms n ∧ (Cond.static y).before args s = true :=
  va_cwS n X.2.2.2.2.1 (gw_cons h1 (fun _ h => h) (gw_cons h2 (fun _ h => h) (gw_cons h4 (fun _ h => h) (gw_cons h5 (fun _ h => h) (gw_in (fun _ h => h)))))) rfl hrc hrs hd hR
theorem cw_SN {host : String} (X : Cx Γ p s m args meth c own cc nL ret w0) (h1 : Cond.methodLinkNest own index y host ∈ NW) (h2 : Cond.static y ∈ GW) (h4 : Cond.initialized y.cls ∈ GW) (h5 : Cond.code y bs mL rt ∈ GW) (hd : y.cls ≠ "java/lang/invoke/MethodHandle" ∧ y.cls ≠ "java/lang/invoke/VarHandle" ∧ (parseMethodDescriptor y.desc).map (fun d => d.parameters.length) = some n) (hrc : rm.cells = mc) (hrs : rm.slots = ms) (hR : rm.frames + 1 ≤ R.frames ∧ 8 + (mL + 11) + rm.locals ≤ R.locals) :
    va_CN R s args own index y host bs mL rt (Cond.code y bs mL rt :: GW) rm mc ms n ∧ (Cond.static y).before args s = true ∧ True :=
  ⟨va_cnB n X.2.2.2.2.1 (gw_cons h5 (fun _ h => h) (gw_in (fun _ h => h))) rfl hrc hrs (X.E.1 _ h1) (X.2.2.2.2.1 _ h4) hd hR, X.2.2.2.2.1 _ h2, trivial⟩
theorem cw_VN {host : String} (X : Cx Γ p s m args meth c own cc nL ret w0) (h1 : Cond.methodLinkNest own index y host ∈ NW) (h2 : Cond.instanceMethod y ∈ GW) (h3 : Cond.selects C y y ∈ GW) (h4 : Cond.initialized y.cls ∈ GW) (h5 : Cond.code y bs mL rt ∈ GW) (hd : y.cls ≠ "java/lang/invoke/MethodHandle" ∧ y.cls ≠ "java/lang/invoke/VarHandle" ∧ (parseMethodDescriptor y.desc).map (fun d => d.parameters.length) = some n) (hrc : rm.cells = mc) (hrs : rm.slots = ms) (hR : rm.frames + 1 ≤ R.frames ∧ 8 + (mL + 11) + rm.locals ≤ R.locals) :
    va_CN R s args own index y host bs mL rt (Cond.code y bs mL rt :: GW) rm mc ms n ∧ (Cond.instanceMethod y).before args s = true ∧ (Cond.selects C y y).before args s = true :=
  ⟨va_cnB n X.2.2.2.2.1 (gw_cons h5 (fun _ h => h) (gw_in (fun _ h => h))) rfl hrc hrs (X.E.1 _ h1) (X.2.2.2.2.1 _ h4) hd hR, X.2.2.2.2.1 _ h2, X.2.2.2.2.1 _ h3⟩
theorem t_i {r : Int32} {a0 : Array Value} (Y : Wd Γ w0 s ws H locs) (B : Bk Γ w0 s H wc w1 ws') (hr : va_Run p l e R s m args below meth c H locs cells slots mc ms (F0 m pc ls st0) rest (QcI Γ wc w1 r H.size a0) (va_A wc H.size))
    (kk : ∀ (H1 : Heap) (locs1 : List Loc), Wd Γ w0 s ws' H1 locs1 → W p l e R s m args below meth c H1 locs1 (cells + mc) (slots + ms) Q (F0 m (pc + 3) ls (.int r :: rest))) : W p l e R s m args below meth c H locs cells slots Q (F0 m pc ls st0) := by
  refine va_calli hr Y.2.2 (fun q _ h => B.1 q h) B.1 (fun r2 u t H1 locs1 ht hvm hw hB hz hk hS => ?_)
  subst hw
  exact kk H1 locs1 (B.2 t H1 locs1 ht hB hk hS)
theorem t_l {r : Int64} {a0 : Array Value} (Y : Wd Γ w0 s ws H locs) (B : Bk Γ w0 s H wc w1 ws') (hr : va_Run p l e R s m args below meth c H locs cells slots mc ms (F0 m pc ls st0) rest (QcL Γ wc w1 r H.size a0) (va_A wc H.size))
    (kk : ∀ (H1 : Heap) (locs1 : List Loc), Wd Γ w0 s ws' H1 locs1 → W p l e R s m args below meth c H1 locs1 (cells + mc) (slots + ms) Q (F0 m (pc + 3) ls (.long r :: rest))) : W p l e R s m args below meth c H locs cells slots Q (F0 m pc ls st0) := by
  refine va_calll hr Y.2.2 (fun q _ h => B.1 q h) B.1 (fun r2 u t H1 locs1 ht hvm hw hB hz hk hS => ?_)
  subst hw
  exact kk H1 locs1 (B.2 t H1 locs1 ht hB hk hS)
theorem t_v {a0 : Array Value} (Y : Wd Γ w0 s ws H locs) (B : Bk Γ w0 s H wc w1 ws') (hr : va_Run p l e R s m args below meth c H locs cells slots mc ms (F0 m pc ls st0) rest (QcV Γ wc w1 H.size a0) (va_A wc H.size))
    (kk : ∀ (H1 : Heap) (locs1 : List Loc), Wd Γ w0 s ws' H1 locs1 → W p l e R s m args below meth c H1 locs1 (cells + mc) (slots + ms) Q (F0 m (pc + 3) ls rest)) : W p l e R s m args below meth c H locs cells slots Q (F0 m pc ls st0) := by
  refine va_callv hr Y.2.2 (fun q _ h => B.1 q h) B.1 (fun u t H1 locs1 ht hvm hw hB hz hk hS => ?_)
  exact kk H1 locs1 (B.2 t H1 locs1 ht hB hk hS)
theorem t_r {r : Nat} {a0 : Array Value} (Y : Wd Γ w0 s ws H locs) (B : Bk Γ w0 s H wc w1 ws') (hr : va_Run p l e R s m args below meth c H locs cells slots mc ms (F0 m pc ls st0) rest (QcR Γ wc w1 r H.size a0) (va_A wc H.size))
    (kk : ∀ (H1 : Heap) (locs1 : List Loc), Wd Γ w0 s ws' H1 locs1 → W p l e R s m args below meth c H1 locs1 (cells + mc) (slots + ms) Q (F0 m (pc + 3) ls (.ref r :: rest))) : W p l e R s m args below meth c H locs cells slots Q (F0 m pc ls st0) := by
  refine va_callr hr Y.2.2 (fun q _ h => B.1 q h) B.1 (fun u r2 t H1 locs1 ht hvm hw hB hz hk hS => ?_)
  obtain ⟨he, hB⟩ := hB
  subst he
  exact kk H1 locs1 (B.2 t H1 locs1 ht hB hk hS)
end Cl
end
section
theorem zz_last : True := trivial
end
