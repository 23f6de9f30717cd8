-- ===== PART A: goes FIRST, ahead of the names: the tables' words, and 'selects' of the private methods out of them =====
/-- a private method of a class that the tables say can be made, by its rows of tables_1 -/
def lw_okq (q : MethodName × Nat) : Prop := (q.1.cls ≠ "java/lang/invoke/MethodHandle" ∧ q.1.cls ≠ "java/lang/invoke/VarHandle") ∧ Cond.instantiable q.1.cls q.2 ∈ tables_1 ∧ Cond.privateMethod q.1 ∈ tables_1 ∧ Cond.instanceMethod q.1 ∈ tables_1
theorem lw_p0 : lw_okq (⟨"MiserBridges", "counted", "(I)I"⟩, 10) := ⟨⟨by decide +kernel, by decide +kernel⟩, List.mem_of_getElem? (i := 23) (by decide +kernel), List.mem_of_getElem? (i := 265) (by decide +kernel), List.mem_of_getElem? (i := 266) (by decide +kernel)⟩
theorem lw_p1 : lw_okq (⟨"MiserBridges$Fort", "isTied", "(I)Z"⟩, 15) := ⟨⟨by decide +kernel, by decide +kernel⟩, List.mem_of_getElem? (i := 31) (by decide +kernel), List.mem_of_getElem? (i := 281) (by decide +kernel), List.mem_of_getElem? (i := 282) (by decide +kernel)⟩
theorem lw_p2 : lw_okq (⟨"MiserBridges$Text", "takeWord", "()V"⟩, 6) := ⟨⟨by decide +kernel, by decide +kernel⟩, List.mem_of_getElem? (i := 151) (by decide +kernel), List.mem_of_getElem? (i := 379) (by decide +kernel), List.mem_of_getElem? (i := 380) (by decide +kernel)⟩
theorem lw_p3 : lw_okq (⟨"MiserBridges$Text", "itemOfWord", "()I"⟩, 6) := ⟨⟨by decide +kernel, by decide +kernel⟩, List.mem_of_getElem? (i := 151) (by decide +kernel), List.mem_of_getElem? (i := 383) (by decide +kernel), List.mem_of_getElem? (i := 384) (by decide +kernel)⟩
theorem lw_p4 : lw_okq (⟨"MiserBridges$Text", "isWord", "(Ljava/lang/String;)Z"⟩, 6) := ⟨⟨by decide +kernel, by decide +kernel⟩, List.mem_of_getElem? (i := 151) (by decide +kernel), List.mem_of_getElem? (i := 388) (by decide +kernel), List.mem_of_getElem? (i := 389) (by decide +kernel)⟩
theorem lw_p5 : lw_okq (⟨"MiserBridges$Text", "takeNumber", "()V"⟩, 6) := ⟨⟨by decide +kernel, by decide +kernel⟩, List.mem_of_getElem? (i := 151) (by decide +kernel), List.mem_of_getElem? (i := 447) (by decide +kernel), List.mem_of_getElem? (i := 448) (by decide +kernel)⟩
theorem lw_p6 : lw_okq (⟨"MiserBridges$Reader", "readItem", "(LMiserBridges$Text;)Z"⟩, 2) := ⟨⟨by decide +kernel, by decide +kernel⟩, List.mem_of_getElem? (i := 181) (by decide +kernel), List.mem_of_getElem? (i := 451) (by decide +kernel), List.mem_of_getElem? (i := 452) (by decide +kernel)⟩
theorem lw_p7 : lw_okq (⟨"MiserBridges$Reader", "tell", "(LMiserBridges$Fort;)I"⟩, 2) := ⟨⟨by decide +kernel, by decide +kernel⟩, List.mem_of_getElem? (i := 181) (by decide +kernel), List.mem_of_getElem? (i := 458) (by decide +kernel), List.mem_of_getElem? (i := 459) (by decide +kernel)⟩
theorem lw_p8 : lw_okq (⟨"MiserBridges$Fort", "isDown", "(I)Z"⟩, 15) := ⟨⟨by decide +kernel, by decide +kernel⟩, List.mem_of_getElem? (i := 31) (by decide +kernel), List.mem_of_getElem? (i := 497) (by decide +kernel), List.mem_of_getElem? (i := 498) (by decide +kernel)⟩
theorem lw_p9 : lw_okq (⟨"MiserBridges$Fort", "joins", "(II)Z"⟩, 15) := ⟨⟨by decide +kernel, by decide +kernel⟩, List.mem_of_getElem? (i := 31) (by decide +kernel), List.mem_of_getElem? (i := 501) (by decide +kernel), List.mem_of_getElem? (i := 502) (by decide +kernel)⟩
theorem lw_p10 : lw_okq (⟨"MiserBridges$Fort", "tip", "(II)V"⟩, 15) := ⟨⟨by decide +kernel, by decide +kernel⟩, List.mem_of_getElem? (i := 31) (by decide +kernel), List.mem_of_getElem? (i := 518) (by decide +kernel), List.mem_of_getElem? (i := 519) (by decide +kernel)⟩
theorem lw_p11 : lw_okq (⟨"MiserBridges", "stepsNow", "(II)I"⟩, 10) := ⟨⟨by decide +kernel, by decide +kernel⟩, List.mem_of_getElem? (i := 23) (by decide +kernel), List.mem_of_getElem? (i := 567) (by decide +kernel), List.mem_of_getElem? (i := 568) (by decide +kernel)⟩
theorem lw_p12 : lw_okq (⟨"MiserBridges$Search", "begin", "(I)V"⟩, 5) := ⟨⟨by decide +kernel, by decide +kernel⟩, List.mem_of_getElem? (i := 194) (by decide +kernel), List.mem_of_getElem? (i := 576) (by decide +kernel), List.mem_of_getElem? (i := 577) (by decide +kernel)⟩
theorem lw_p13 : lw_okq (⟨"MiserBridges$Search", "note", "(II)V"⟩, 5) := ⟨⟨by decide +kernel, by decide +kernel⟩, List.mem_of_getElem? (i := 194) (by decide +kernel), List.mem_of_getElem? (i := 583) (by decide +kernel), List.mem_of_getElem? (i := 584) (by decide +kernel)⟩
theorem lw_p14 : lw_okq (⟨"MiserBridges$Search", "stateAt", "(I)I"⟩, 5) := ⟨⟨by decide +kernel, by decide +kernel⟩, List.mem_of_getElem? (i := 194) (by decide +kernel), List.mem_of_getElem? (i := 587) (by decide +kernel), List.mem_of_getElem? (i := 588) (by decide +kernel)⟩
theorem lw_p15 : lw_okq (⟨"MiserBridges$Search", "goOn", "(LMiserBridges$Fort;I)V"⟩, 5) := ⟨⟨by decide +kernel, by decide +kernel⟩, List.mem_of_getElem? (i := 194) (by decide +kernel), List.mem_of_getElem? (i := 596) (by decide +kernel), List.mem_of_getElem? (i := 597) (by decide +kernel)⟩
def lw_privs_1 : List (MethodName × Nat) := [(⟨"MiserBridges", "counted", "(I)I"⟩, 10), (⟨"MiserBridges$Fort", "isTied", "(I)Z"⟩, 15), (⟨"MiserBridges$Text", "takeWord", "()V"⟩, 6), (⟨"MiserBridges$Text", "itemOfWord", "()I"⟩, 6), (⟨"MiserBridges$Text", "isWord", "(Ljava/lang/String;)Z"⟩, 6), (⟨"MiserBridges$Text", "takeNumber", "()V"⟩, 6), (⟨"MiserBridges$Reader", "readItem", "(LMiserBridges$Text;)Z"⟩, 2), (⟨"MiserBridges$Reader", "tell", "(LMiserBridges$Fort;)I"⟩, 2), (⟨"MiserBridges$Fort", "isDown", "(I)Z"⟩, 15), (⟨"MiserBridges$Fort", "joins", "(II)Z"⟩, 15), (⟨"MiserBridges$Fort", "tip", "(II)V"⟩, 15), (⟨"MiserBridges", "stepsNow", "(II)I"⟩, 10), (⟨"MiserBridges$Search", "begin", "(I)V"⟩, 5), (⟨"MiserBridges$Search", "note", "(II)V"⟩, 5), (⟨"MiserBridges$Search", "stateAt", "(I)I"⟩, 5), (⟨"MiserBridges$Search", "goOn", "(LMiserBridges$Fort;I)V"⟩, 5)]
theorem lw_r1 : ∀ q ∈ lw_privs_1, lw_okq q := List.forall_mem_cons.mpr ⟨lw_p0, List.forall_mem_cons.mpr ⟨lw_p1, List.forall_mem_cons.mpr ⟨lw_p2, List.forall_mem_cons.mpr ⟨lw_p3, List.forall_mem_cons.mpr ⟨lw_p4, List.forall_mem_cons.mpr ⟨lw_p5, List.forall_mem_cons.mpr ⟨lw_p6, List.forall_mem_cons.mpr ⟨lw_p7, List.forall_mem_cons.mpr ⟨lw_p8, List.forall_mem_cons.mpr ⟨lw_p9, List.forall_mem_cons.mpr ⟨lw_p10, List.forall_mem_cons.mpr ⟨lw_p11, List.forall_mem_cons.mpr ⟨lw_p12, List.forall_mem_cons.mpr ⟨lw_p13, List.forall_mem_cons.mpr ⟨lw_p14, List.forall_mem_cons.mpr ⟨lw_p15, fun _ h => absurd h List.not_mem_nil⟩⟩⟩⟩⟩⟩⟩⟩⟩⟩⟩⟩⟩⟩⟩⟩
theorem lw_p16 : lw_okq (⟨"MiserBridges$Search", "before", "(I)I"⟩, 5) := ⟨⟨by decide +kernel, by decide +kernel⟩, List.mem_of_getElem? (i := 194) (by decide +kernel), List.mem_of_getElem? (i := 606) (by decide +kernel), List.mem_of_getElem? (i := 607) (by decide +kernel)⟩
theorem lw_p17 : lw_okq (⟨"MiserBridges", "lyingsNow", "()I"⟩, 10) := ⟨⟨by decide +kernel, by decide +kernel⟩, List.mem_of_getElem? (i := 23) (by decide +kernel), List.mem_of_getElem? (i := 617) (by decide +kernel), List.mem_of_getElem? (i := 618) (by decide +kernel)⟩
theorem lw_p18 : lw_okq (⟨"MiserBridgesModel", "addBridge", "(IIIIZ)I"⟩, 24) := ⟨⟨by decide +kernel, by decide +kernel⟩, List.mem_of_getElem? (i := 733) (by decide +kernel), List.mem_of_getElem? (i := 816) (by decide +kernel), List.mem_of_getElem? (i := 817) (by decide +kernel)⟩
theorem lw_p19 : lw_okq (⟨"MiserBridgesModel", "met", "(I)I"⟩, 24) := ⟨⟨by decide +kernel, by decide +kernel⟩, List.mem_of_getElem? (i := 733) (by decide +kernel), List.mem_of_getElem? (i := 825) (by decide +kernel), List.mem_of_getElem? (i := 826) (by decide +kernel)⟩
theorem lw_p20 : lw_okq (⟨"MiserBridgesModel", "addChain", "(IIII)I"⟩, 24) := ⟨⟨by decide +kernel, by decide +kernel⟩, List.mem_of_getElem? (i := 733) (by decide +kernel), List.mem_of_getElem? (i := 833) (by decide +kernel), List.mem_of_getElem? (i := 834) (by decide +kernel)⟩
theorem lw_p21 : lw_okq (⟨"MiserBridgesModel", "isBridge", "(II)Z"⟩, 24) := ⟨⟨by decide +kernel, by decide +kernel⟩, List.mem_of_getElem? (i := 733) (by decide +kernel), List.mem_of_getElem? (i := 837) (by decide +kernel), List.mem_of_getElem? (i := 838) (by decide +kernel)⟩
theorem lw_p22 : lw_okq (⟨"MiserBridgesModel", "isTied", "(II)Z"⟩, 24) := ⟨⟨by decide +kernel, by decide +kernel⟩, List.mem_of_getElem? (i := 733) (by decide +kernel), List.mem_of_getElem? (i := 842) (by decide +kernel), List.mem_of_getElem? (i := 843) (by decide +kernel)⟩
theorem lw_p23 : lw_okq (⟨"MiserBridgesModel", "setLoad", "(III)I"⟩, 24) := ⟨⟨by decide +kernel, by decide +kernel⟩, List.mem_of_getElem? (i := 733) (by decide +kernel), List.mem_of_getElem? (i := 850) (by decide +kernel), List.mem_of_getElem? (i := 851) (by decide +kernel)⟩
theorem lw_p24 : lw_okq (⟨"MiserBridgesModel", "addOne", "(III)I"⟩, 24) := ⟨⟨by decide +kernel, by decide +kernel⟩, List.mem_of_getElem? (i := 733) (by decide +kernel), List.mem_of_getElem? (i := 859) (by decide +kernel), List.mem_of_getElem? (i := 860) (by decide +kernel)⟩
theorem lw_p25 : lw_okq (⟨"MiserBridgesModel", "bad", "()I"⟩, 24) := ⟨⟨by decide +kernel, by decide +kernel⟩, List.mem_of_getElem? (i := 733) (by decide +kernel), List.mem_of_getElem? (i := 867) (by decide +kernel), List.mem_of_getElem? (i := 868) (by decide +kernel)⟩
theorem lw_p26 : lw_okq (⟨"MiserBridgesModel", "layNow", "()V"⟩, 24) := ⟨⟨by decide +kernel, by decide +kernel⟩, List.mem_of_getElem? (i := 733) (by decide +kernel), List.mem_of_getElem? (i := 871) (by decide +kernel), List.mem_of_getElem? (i := 872) (by decide +kernel)⟩
theorem lw_p27 : lw_okq (⟨"MiserBridgesModel", "tieMore", "(III)V"⟩, 24) := ⟨⟨by decide +kernel, by decide +kernel⟩, List.mem_of_getElem? (i := 733) (by decide +kernel), List.mem_of_getElem? (i := 875) (by decide +kernel), List.mem_of_getElem? (i := 876) (by decide +kernel)⟩
theorem lw_p28 : lw_okq (⟨"MiserBridgesModel", "asNow", "()V"⟩, 24) := ⟨⟨by decide +kernel, by decide +kernel⟩, List.mem_of_getElem? (i := 733) (by decide +kernel), List.mem_of_getElem? (i := 879) (by decide +kernel), List.mem_of_getElem? (i := 880) (by decide +kernel)⟩
theorem lw_p29 : lw_okq (⟨"MiserBridgesModel", "loadOf", "(I)I"⟩, 24) := ⟨⟨by decide +kernel, by decide +kernel⟩, List.mem_of_getElem? (i := 733) (by decide +kernel), List.mem_of_getElem? (i := 886) (by decide +kernel), List.mem_of_getElem? (i := 887) (by decide +kernel)⟩
theorem lw_p30 : lw_okq (⟨"MiserBridgesModel", "isOne", "(I)Z"⟩, 24) := ⟨⟨by decide +kernel, by decide +kernel⟩, List.mem_of_getElem? (i := 733) (by decide +kernel), List.mem_of_getElem? (i := 894) (by decide +kernel), List.mem_of_getElem? (i := 895) (by decide +kernel)⟩
theorem lw_p31 : lw_okq (⟨"MiserBridgesModel", "isEnd", "()Z"⟩, 24) := ⟨⟨by decide +kernel, by decide +kernel⟩, List.mem_of_getElem? (i := 733) (by decide +kernel), List.mem_of_getElem? (i := 916) (by decide +kernel), List.mem_of_getElem? (i := 917) (by decide +kernel)⟩
def lw_privs_2 : List (MethodName × Nat) := [(⟨"MiserBridges$Search", "before", "(I)I"⟩, 5), (⟨"MiserBridges", "lyingsNow", "()I"⟩, 10), (⟨"MiserBridgesModel", "addBridge", "(IIIIZ)I"⟩, 24), (⟨"MiserBridgesModel", "met", "(I)I"⟩, 24), (⟨"MiserBridgesModel", "addChain", "(IIII)I"⟩, 24), (⟨"MiserBridgesModel", "isBridge", "(II)Z"⟩, 24), (⟨"MiserBridgesModel", "isTied", "(II)Z"⟩, 24), (⟨"MiserBridgesModel", "setLoad", "(III)I"⟩, 24), (⟨"MiserBridgesModel", "addOne", "(III)I"⟩, 24), (⟨"MiserBridgesModel", "bad", "()I"⟩, 24), (⟨"MiserBridgesModel", "layNow", "()V"⟩, 24), (⟨"MiserBridgesModel", "tieMore", "(III)V"⟩, 24), (⟨"MiserBridgesModel", "asNow", "()V"⟩, 24), (⟨"MiserBridgesModel", "loadOf", "(I)I"⟩, 24), (⟨"MiserBridgesModel", "isOne", "(I)Z"⟩, 24), (⟨"MiserBridgesModel", "isEnd", "()Z"⟩, 24)]
theorem lw_r2 : ∀ q ∈ lw_privs_2, lw_okq q := List.forall_mem_cons.mpr ⟨lw_p16, List.forall_mem_cons.mpr ⟨lw_p17, List.forall_mem_cons.mpr ⟨lw_p18, List.forall_mem_cons.mpr ⟨lw_p19, List.forall_mem_cons.mpr ⟨lw_p20, List.forall_mem_cons.mpr ⟨lw_p21, List.forall_mem_cons.mpr ⟨lw_p22, List.forall_mem_cons.mpr ⟨lw_p23, List.forall_mem_cons.mpr ⟨lw_p24, List.forall_mem_cons.mpr ⟨lw_p25, List.forall_mem_cons.mpr ⟨lw_p26, List.forall_mem_cons.mpr ⟨lw_p27, List.forall_mem_cons.mpr ⟨lw_p28, List.forall_mem_cons.mpr ⟨lw_p29, List.forall_mem_cons.mpr ⟨lw_p30, List.forall_mem_cons.mpr ⟨lw_p31, fun _ h => absurd h List.not_mem_nil⟩⟩⟩⟩⟩⟩⟩⟩⟩⟩⟩⟩⟩⟩⟩⟩
theorem lw_p32 : lw_okq (⟨"MiserBridgesModel", "takeItem", "()V"⟩, 24) := ⟨⟨by decide +kernel, by decide +kernel⟩, List.mem_of_getElem? (i := 733) (by decide +kernel), List.mem_of_getElem? (i := 920) (by decide +kernel), List.mem_of_getElem? (i := 921) (by decide +kernel)⟩
theorem lw_p33 : lw_okq (⟨"MiserBridgesModel", "takeNumber", "()I"⟩, 24) := ⟨⟨by decide +kernel, by decide +kernel⟩, List.mem_of_getElem? (i := 733) (by decide +kernel), List.mem_of_getElem? (i := 936) (by decide +kernel), List.mem_of_getElem? (i := 937) (by decide +kernel)⟩
theorem lw_p34 : lw_okq (⟨"MiserBridgesModel", "tellItem", "(I)I"⟩, 24) := ⟨⟨by decide +kernel, by decide +kernel⟩, List.mem_of_getElem? (i := 733) (by decide +kernel), List.mem_of_getElem? (i := 942) (by decide +kernel), List.mem_of_getElem? (i := 943) (by decide +kernel)⟩
theorem lw_p35 : lw_okq (⟨"MiserBridgesModel", "copy", "(II)V"⟩, 24) := ⟨⟨by decide +kernel, by decide +kernel⟩, List.mem_of_getElem? (i := 733) (by decide +kernel), List.mem_of_getElem? (i := 946) (by decide +kernel), List.mem_of_getElem? (i := 947) (by decide +kernel)⟩
theorem lw_p36 : lw_okq (⟨"MiserBridgesModel", "isPlace", "(I)Z"⟩, 24) := ⟨⟨by decide +kernel, by decide +kernel⟩, List.mem_of_getElem? (i := 733) (by decide +kernel), List.mem_of_getElem? (i := 954) (by decide +kernel), List.mem_of_getElem? (i := 955) (by decide +kernel)⟩
theorem lw_p37 : lw_okq (⟨"MiserBridgesModel", "mayStep", "(II)Z"⟩, 24) := ⟨⟨by decide +kernel, by decide +kernel⟩, List.mem_of_getElem? (i := 733) (by decide +kernel), List.mem_of_getElem? (i := 958) (by decide +kernel), List.mem_of_getElem? (i := 959) (by decide +kernel)⟩
theorem lw_p38 : lw_okq (⟨"MiserBridgesModel", "isOf", "(II)Z"⟩, 24) := ⟨⟨by decide +kernel, by decide +kernel⟩, List.mem_of_getElem? (i := 733) (by decide +kernel), List.mem_of_getElem? (i := 962) (by decide +kernel), List.mem_of_getElem? (i := 963) (by decide +kernel)⟩
theorem lw_p39 : lw_okq (⟨"MiserBridgesModel", "tipAll", "()V"⟩, 24) := ⟨⟨by decide +kernel, by decide +kernel⟩, List.mem_of_getElem? (i := 733) (by decide +kernel), List.mem_of_getElem? (i := 966) (by decide +kernel), List.mem_of_getElem? (i := 967) (by decide +kernel)⟩
theorem lw_p40 : lw_okq (⟨"MiserBridgesModel", "tip", "(II)V"⟩, 24) := ⟨⟨by decide +kernel, by decide +kernel⟩, List.mem_of_getElem? (i := 733) (by decide +kernel), List.mem_of_getElem? (i := 970) (by decide +kernel), List.mem_of_getElem? (i := 971) (by decide +kernel)⟩
theorem lw_p41 : lw_okq (⟨"MiserBridgesModel", "areSome", "(I)Z"⟩, 24) := ⟨⟨by decide +kernel, by decide +kernel⟩, List.mem_of_getElem? (i := 733) (by decide +kernel), List.mem_of_getElem? (i := 982) (by decide +kernel), List.mem_of_getElem? (i := 983) (by decide +kernel)⟩
theorem lw_p42 : lw_okq (⟨"MiserBridgesModel", "findWay", "(II)I"⟩, 24) := ⟨⟨by decide +kernel, by decide +kernel⟩, List.mem_of_getElem? (i := 733) (by decide +kernel), List.mem_of_getElem? (i := 989) (by decide +kernel), List.mem_of_getElem? (i := 990) (by decide +kernel)⟩
theorem lw_p43 : lw_okq (⟨"MiserBridgesModel", "goAll", "()V"⟩, 24) := ⟨⟨by decide +kernel, by decide +kernel⟩, List.mem_of_getElem? (i := 733) (by decide +kernel), List.mem_of_getElem? (i := 993) (by decide +kernel), List.mem_of_getElem? (i := 994) (by decide +kernel)⟩
theorem lw_p44 : lw_okq (⟨"MiserBridgesModel", "codeNow", "()I"⟩, 24) := ⟨⟨by decide +kernel, by decide +kernel⟩, List.mem_of_getElem? (i := 733) (by decide +kernel), List.mem_of_getElem? (i := 997) (by decide +kernel), List.mem_of_getElem? (i := 998) (by decide +kernel)⟩
theorem lw_p45 : lw_okq (⟨"MiserBridgesModel", "decode", "(I)V"⟩, 24) := ⟨⟨by decide +kernel, by decide +kernel⟩, List.mem_of_getElem? (i := 733) (by decide +kernel), List.mem_of_getElem? (i := 1001) (by decide +kernel), List.mem_of_getElem? (i := 1002) (by decide +kernel)⟩
theorem lw_p46 : lw_okq (⟨"MiserBridgesModel", "stepsTo", "(I)I"⟩, 24) := ⟨⟨by decide +kernel, by decide +kernel⟩, List.mem_of_getElem? (i := 733) (by decide +kernel), List.mem_of_getElem? (i := 1005) (by decide +kernel), List.mem_of_getElem? (i := 1006) (by decide +kernel)⟩
theorem lw_p47 : lw_okq (⟨"MiserBridgesModel", "allLyings", "()I"⟩, 24) := ⟨⟨by decide +kernel, by decide +kernel⟩, List.mem_of_getElem? (i := 733) (by decide +kernel), List.mem_of_getElem? (i := 1014) (by decide +kernel), List.mem_of_getElem? (i := 1015) (by decide +kernel)⟩
def lw_privs_3 : List (MethodName × Nat) := [(⟨"MiserBridgesModel", "takeItem", "()V"⟩, 24), (⟨"MiserBridgesModel", "takeNumber", "()I"⟩, 24), (⟨"MiserBridgesModel", "tellItem", "(I)I"⟩, 24), (⟨"MiserBridgesModel", "copy", "(II)V"⟩, 24), (⟨"MiserBridgesModel", "isPlace", "(I)Z"⟩, 24), (⟨"MiserBridgesModel", "mayStep", "(II)Z"⟩, 24), (⟨"MiserBridgesModel", "isOf", "(II)Z"⟩, 24), (⟨"MiserBridgesModel", "tipAll", "()V"⟩, 24), (⟨"MiserBridgesModel", "tip", "(II)V"⟩, 24), (⟨"MiserBridgesModel", "areSome", "(I)Z"⟩, 24), (⟨"MiserBridgesModel", "findWay", "(II)I"⟩, 24), (⟨"MiserBridgesModel", "goAll", "()V"⟩, 24), (⟨"MiserBridgesModel", "codeNow", "()I"⟩, 24), (⟨"MiserBridgesModel", "decode", "(I)V"⟩, 24), (⟨"MiserBridgesModel", "stepsTo", "(I)I"⟩, 24), (⟨"MiserBridgesModel", "allLyings", "()I"⟩, 24)]
theorem lw_r3 : ∀ q ∈ lw_privs_3, lw_okq q := List.forall_mem_cons.mpr ⟨lw_p32, List.forall_mem_cons.mpr ⟨lw_p33, List.forall_mem_cons.mpr ⟨lw_p34, List.forall_mem_cons.mpr ⟨lw_p35, List.forall_mem_cons.mpr ⟨lw_p36, List.forall_mem_cons.mpr ⟨lw_p37, List.forall_mem_cons.mpr ⟨lw_p38, List.forall_mem_cons.mpr ⟨lw_p39, List.forall_mem_cons.mpr ⟨lw_p40, List.forall_mem_cons.mpr ⟨lw_p41, List.forall_mem_cons.mpr ⟨lw_p42, List.forall_mem_cons.mpr ⟨lw_p43, List.forall_mem_cons.mpr ⟨lw_p44, List.forall_mem_cons.mpr ⟨lw_p45, List.forall_mem_cons.mpr ⟨lw_p46, List.forall_mem_cons.mpr ⟨lw_p47, fun _ h => absurd h List.not_mem_nil⟩⟩⟩⟩⟩⟩⟩⟩⟩⟩⟩⟩⟩⟩⟩⟩
theorem lw_p48 : lw_okq (⟨"MiserBridgesModel", "lyings", "()I"⟩, 24) := ⟨⟨by decide +kernel, by decide +kernel⟩, List.mem_of_getElem? (i := 733) (by decide +kernel), List.mem_of_getElem? (i := 1018) (by decide +kernel), List.mem_of_getElem? (i := 1019) (by decide +kernel)⟩
theorem lw_p49 : lw_okq (⟨"MiserBridgesModel", "stepsOf", "(II)I"⟩, 24) := ⟨⟨by decide +kernel, by decide +kernel⟩, List.mem_of_getElem? (i := 733) (by decide +kernel), List.mem_of_getElem? (i := 1041) (by decide +kernel), List.mem_of_getElem? (i := 1042) (by decide +kernel)⟩
theorem lw_p50 : lw_okq (⟨"MiserBridgesModel", "countOf", "(I)I"⟩, 24) := ⟨⟨by decide +kernel, by decide +kernel⟩, List.mem_of_getElem? (i := 733) (by decide +kernel), List.mem_of_getElem? (i := 1083) (by decide +kernel), List.mem_of_getElem? (i := 1084) (by decide +kernel)⟩
theorem lw_p51 : lw_okq (⟨"MiserBridgesModel", "mix", "(J)V"⟩, 24) := ⟨⟨by decide +kernel, by decide +kernel⟩, List.mem_of_getElem? (i := 733) (by decide +kernel), List.mem_of_getElem? (i := 1092) (by decide +kernel), List.mem_of_getElem? (i := 1093) (by decide +kernel)⟩
def lw_privs_4 : List (MethodName × Nat) := [(⟨"MiserBridgesModel", "lyings", "()I"⟩, 24), (⟨"MiserBridgesModel", "stepsOf", "(II)I"⟩, 24), (⟨"MiserBridgesModel", "countOf", "(I)I"⟩, 24), (⟨"MiserBridgesModel", "mix", "(J)V"⟩, 24)]
theorem lw_r4 : ∀ q ∈ lw_privs_4, lw_okq q := List.forall_mem_cons.mpr ⟨lw_p48, List.forall_mem_cons.mpr ⟨lw_p49, List.forall_mem_cons.mpr ⟨lw_p50, List.forall_mem_cons.mpr ⟨lw_p51, fun _ h => absurd h List.not_mem_nil⟩⟩⟩⟩
def lw_privs : List (MethodName × Nat) := lw_privs_1 ++ (lw_privs_2 ++ (lw_privs_3 ++ (lw_privs_4)))
def lw_tbl : List Cond := k2_sels lw_privs ++ tables_1
theorem lw_privs_ok : ∀ q ∈ lw_privs, lw_okq q := by
  show ∀ q ∈ lw_privs_1 ++ (lw_privs_2 ++ (lw_privs_3 ++ (lw_privs_4))), lw_okq q
  exact List.forall_mem_append.mpr ⟨lw_r1, List.forall_mem_append.mpr ⟨lw_r2, List.forall_mem_append.mpr ⟨lw_r3, lw_r4⟩⟩⟩

def RX0 : String := "MiserBridges$Doubled"
def TX0 : u_T := fun k => match k with
  | _ => ("", "", "", false)
def tyX0 : Nat → FieldType := fun k => match k with
  | _ => .int
theorem nmX0 : ∀ a, a < 0 → ∀ b, b < 0 → a ≠ b → (TX0 a).2.1 ≠ (TX0 b).2.1 := by decide +kernel
theorem tyX0_ok : ∀ k, k < 0 → parseFieldDescriptor (TX0 k).2.2.1 = some (tyX0 k) := by decide +kernel
abbrev cX0_init : ByteArray := prog_2_method_1_code
def yX0_init : MethodName := ⟨RX0, "<init>", "()V"⟩
abbrev cX0_loadBy : ByteArray := prog_2_method_2_code
def yX0_loadBy : MethodName := ⟨RX0, "loadBy", "(I)I"⟩
def RX1 : String := "MiserBridges$False"
def TX1 : u_T := fun k => match k with
  | _ => ("", "", "", false)
def tyX1 : Nat → FieldType := fun k => match k with
  | _ => .int
theorem nmX1 : ∀ a, a < 0 → ∀ b, b < 0 → a ≠ b → (TX1 a).2.1 ≠ (TX1 b).2.1 := by decide +kernel
theorem tyX1_ok : ∀ k, k < 0 → parseFieldDescriptor (TX1 k).2.2.1 = some (tyX1 k) := by decide +kernel
abbrev cX1_init : ByteArray := prog_3_method_1_code
def yX1_init : MethodName := ⟨RX1, "<init>", "()V"⟩
abbrev cX1_loadBy : ByteArray := prog_3_method_2_code
def yX1_loadBy : MethodName := ⟨RX1, "loadBy", "(I)I"⟩
def RX2 : String := "MiserBridges$Fort"
def TX2 : u_T := fun k => match k with
  | 0 => ("MiserBridges$Fort", "kinds", "[LMiserBridges$Plain;", true)
  | 1 => ("MiserBridges$Fort", "bridges", "I", false)
  | 2 => ("MiserBridges$Fort", "roomA", "[I", true)
  | 3 => ("MiserBridges$Fort", "roomB", "[I", true)
  | 4 => ("MiserBridges$Fort", "kind", "[I", true)
  | 5 => ("MiserBridges$Fort", "ballast", "[I", true)
  | 6 => ("MiserBridges$Fort", "lying", "I", false)
  | 7 => ("MiserBridges$Fort", "chains", "I", false)
  | 8 => ("MiserBridges$Fort", "chainA", "[I", true)
  | 9 => ("MiserBridges$Fort", "chainB", "[I", true)
  | 10 => ("MiserBridges$Fort", "rust", "[I", true)
  | 11 => ("MiserBridges$Fort", "people", "I", false)
  | 12 => ("MiserBridges$Fort", "pounds", "[I", true)
  | 13 => ("MiserBridges$Fort", "place", "[I", true)
  | _ => ("MiserBridges$Fort", "past", "LMiserBridges$Past;", true)
def tyX2 : Nat → FieldType := fun k => match k with
  | 0 => .array (.object "MiserBridges$Plain")
  | 1 => .int
  | 2 => .array .int
  | 3 => .array .int
  | 4 => .array .int
  | 5 => .array .int
  | 6 => .int
  | 7 => .int
  | 8 => .array .int
  | 9 => .array .int
  | 10 => .array .int
  | 11 => .int
  | 12 => .array .int
  | 13 => .array .int
  | _ => .object "MiserBridges$Past"
theorem nmX2 : ∀ a, a < 15 → ∀ b, b < 15 → a ≠ b → (TX2 a).2.1 ≠ (TX2 b).2.1 := by decide +kernel
theorem tyX2_ok : ∀ k, k < 15 → parseFieldDescriptor (TX2 k).2.2.1 = some (tyX2 k) := by decide +kernel
abbrev cX2_init : ByteArray := prog_4_method_1_code
def yX2_init : MethodName := ⟨RX2, "<init>", "()V"⟩
abbrev cX2_empty : ByteArray := prog_4_method_2_code
def yX2_empty : MethodName := ⟨RX2, "empty", "()V"⟩
abbrev cX2_take : ByteArray := prog_4_method_3_code
def yX2_take : MethodName := ⟨RX2, "take", "(LMiserBridges$Fort;)V"⟩
abbrev cX2_addBridge : ByteArray := prog_4_method_4_code
def yX2_addBridge : MethodName := ⟨RX2, "addBridge", "(IIIZ)I"⟩
abbrev cX2_addChain : ByteArray := prog_4_method_5_code
def yX2_addChain : MethodName := ⟨RX2, "addChain", "(III)I"⟩
abbrev cX2_setBallast : ByteArray := prog_4_method_6_code
def yX2_setBallast : MethodName := ⟨RX2, "setBallast", "(II)I"⟩
abbrev cX2_addPerson : ByteArray := prog_4_method_7_code
def yX2_addPerson : MethodName := ⟨RX2, "addPerson", "(II)I"⟩
abbrev cX2_isBridge : ByteArray := prog_4_method_8_code
def yX2_isBridge : MethodName := ⟨RX2, "isBridge", "(I)Z"⟩
abbrev cX2_isPerson : ByteArray := prog_4_method_9_code
def yX2_isPerson : MethodName := ⟨RX2, "isPerson", "(I)Z"⟩
abbrev cX2_isPlace : ByteArray := prog_4_method_10_code
def yX2_isPlace : MethodName := ⟨RX2, "isPlace", "(I)Z"⟩
abbrev cX2_areBridges : ByteArray := prog_4_method_11_code
def yX2_areBridges : MethodName := ⟨RX2, "areBridges", "(I)Z"⟩
abbrev cX2_areSome : ByteArray := prog_4_method_12_code
def yX2_areSome : MethodName := ⟨RX2, "areSome", "(I)Z"⟩
abbrev cX2_allBridges : ByteArray := prog_4_method_13_code
def yX2_allBridges : MethodName := ⟨RX2, "allBridges", "()I"⟩
abbrev cX2_bridgesOf : ByteArray := prog_4_method_14_code
def yX2_bridgesOf : MethodName := ⟨RX2, "bridgesOf", "(I)I"⟩
abbrev cX2_joins : ByteArray := prog_4_method_15_code
def yX2_joins : MethodName := ⟨RX2, "joins", "(II)Z"⟩
abbrev cX2_isDown : ByteArray := prog_4_method_16_code
def yX2_isDown : MethodName := ⟨RX2, "isDown", "(I)Z"⟩
abbrev cX2_isTied : ByteArray := prog_4_method_17_code
def yX2_isTied : MethodName := ⟨RX2, "isTied", "(I)Z"⟩
abbrev cX2_loadOn : ByteArray := prog_4_method_18_code
def yX2_loadOn : MethodName := ⟨RX2, "loadOn", "(I)I"⟩
abbrev cX2_areIn : ByteArray := prog_4_method_19_code
def yX2_areIn : MethodName := ⟨RX2, "areIn", "(II)Z"⟩
abbrev cX2_canGo : ByteArray := prog_4_method_20_code
def yX2_canGo : MethodName := ⟨RX2, "canGo", "(II)Z"⟩
abbrev cX2_go : ByteArray := prog_4_method_21_code
def yX2_go : MethodName := ⟨RX2, "go", "(II)V"⟩
abbrev cX2_tip : ByteArray := prog_4_method_22_code
def yX2_tip : MethodName := ⟨RX2, "tip", "(II)V"⟩
abbrev cX2_dropChain : ByteArray := prog_4_method_23_code
def yX2_dropChain : MethodName := ⟨RX2, "dropChain", "(I)V"⟩
abbrev cX2_addStones : ByteArray := prog_4_method_24_code
def yX2_addStones : MethodName := ⟨RX2, "addStones", "(II)V"⟩
abbrev cX2_leaveOut : ByteArray := prog_4_method_25_code
def yX2_leaveOut : MethodName := ⟨RX2, "leaveOut", "(I)V"⟩
abbrev cX2_leaveAlone : ByteArray := prog_4_method_26_code
def yX2_leaveAlone : MethodName := ⟨RX2, "leaveAlone", "(I)V"⟩
abbrev cX2_packed : ByteArray := prog_4_method_27_code
def yX2_packed : MethodName := ⟨RX2, "packed", "()I"⟩
abbrev cX2_unpack : ByteArray := prog_4_method_28_code
def yX2_unpack : MethodName := ⟨RX2, "unpack", "(I)V"⟩
abbrev cX2_digestOn : ByteArray := prog_4_method_29_code
def yX2_digestOn : MethodName := ⟨RX2, "digestOn", "(J)J"⟩
def RX3 : String := "MiserBridges$Greased"
def TX3 : u_T := fun k => match k with
  | _ => ("", "", "", false)
def tyX3 : Nat → FieldType := fun k => match k with
  | _ => .int
theorem nmX3 : ∀ a, a < 0 → ∀ b, b < 0 → a ≠ b → (TX3 a).2.1 ≠ (TX3 b).2.1 := by decide +kernel
theorem tyX3_ok : ∀ k, k < 0 → parseFieldDescriptor (TX3 k).2.2.1 = some (tyX3 k) := by decide +kernel
abbrev cX3_init : ByteArray := prog_5_method_1_code
def yX3_init : MethodName := ⟨RX3, "<init>", "()V"⟩
abbrev cX3_loadBy : ByteArray := prog_5_method_2_code
def yX3_loadBy : MethodName := ⟨RX3, "loadBy", "(I)I"⟩
def RX4 : String := "MiserBridges$Jammed"
def TX4 : u_T := fun k => match k with
  | _ => ("", "", "", false)
def tyX4 : Nat → FieldType := fun k => match k with
  | _ => .int
theorem nmX4 : ∀ a, a < 0 → ∀ b, b < 0 → a ≠ b → (TX4 a).2.1 ≠ (TX4 b).2.1 := by decide +kernel
theorem tyX4_ok : ∀ k, k < 0 → parseFieldDescriptor (TX4 k).2.2.1 = some (tyX4 k) := by decide +kernel
abbrev cX4_init : ByteArray := prog_6_method_1_code
def yX4_init : MethodName := ⟨RX4, "<init>", "()V"⟩
abbrev cX4_mayFall : ByteArray := prog_6_method_2_code
def yX4_mayFall : MethodName := ⟨RX4, "mayFall", "()Z"⟩
def RX5 : String := "MiserBridges$Latched"
def TX5 : u_T := fun k => match k with
  | _ => ("", "", "", false)
def tyX5 : Nat → FieldType := fun k => match k with
  | _ => .int
theorem nmX5 : ∀ a, a < 0 → ∀ b, b < 0 → a ≠ b → (TX5 a).2.1 ≠ (TX5 b).2.1 := by decide +kernel
theorem tyX5_ok : ∀ k, k < 0 → parseFieldDescriptor (TX5 k).2.2.1 = some (tyX5 k) := by decide +kernel
abbrev cX5_init : ByteArray := prog_7_method_1_code
def yX5_init : MethodName := ⟨RX5, "<init>", "()V"⟩
abbrev cX5_mayRise : ByteArray := prog_7_method_2_code
def yX5_mayRise : MethodName := ⟨RX5, "mayRise", "()Z"⟩
def RX6 : String := "MiserBridges$Past"
def TX6 : u_T := fun k => match k with
  | 0 => ("MiserBridges$Past", "states", "[I", true)
  | _ => ("MiserBridges$Past", "size", "I", false)
def tyX6 : Nat → FieldType := fun k => match k with
  | 0 => .array .int
  | _ => .int
theorem nmX6 : ∀ a, a < 2 → ∀ b, b < 2 → a ≠ b → (TX6 a).2.1 ≠ (TX6 b).2.1 := by decide +kernel
theorem tyX6_ok : ∀ k, k < 2 → parseFieldDescriptor (TX6 k).2.2.1 = some (tyX6 k) := by decide +kernel
abbrev cX6_init : ByteArray := prog_8_method_1_code
def yX6_init : MethodName := ⟨RX6, "<init>", "()V"⟩
abbrev cX6_push : ByteArray := prog_8_method_2_code
def yX6_push : MethodName := ⟨RX6, "push", "(I)V"⟩
abbrev cX6_pop : ByteArray := prog_8_method_3_code
def yX6_pop : MethodName := ⟨RX6, "pop", "()I"⟩
abbrev cX6_forget : ByteArray := prog_8_method_4_code
def yX6_forget : MethodName := ⟨RX6, "forget", "()V"⟩
abbrev cX6_take : ByteArray := prog_8_method_5_code
def yX6_take : MethodName := ⟨RX6, "take", "(LMiserBridges$Past;)V"⟩
def RX7 : String := "MiserBridges$Plain"
def TX7 : u_T := fun k => match k with
  | _ => ("", "", "", false)
def tyX7 : Nat → FieldType := fun k => match k with
  | _ => .int
theorem nmX7 : ∀ a, a < 0 → ∀ b, b < 0 → a ≠ b → (TX7 a).2.1 ≠ (TX7 b).2.1 := by decide +kernel
theorem tyX7_ok : ∀ k, k < 0 → parseFieldDescriptor (TX7 k).2.2.1 = some (tyX7 k) := by decide +kernel
abbrev cX7_init : ByteArray := prog_9_method_1_code
def yX7_init : MethodName := ⟨RX7, "<init>", "()V"⟩
abbrev cX7_loadBy : ByteArray := prog_9_method_2_code
def yX7_loadBy : MethodName := ⟨RX7, "loadBy", "(I)I"⟩
abbrev cX7_mayRise : ByteArray := prog_9_method_3_code
def yX7_mayRise : MethodName := ⟨RX7, "mayRise", "()Z"⟩
abbrev cX7_mayFall : ByteArray := prog_9_method_4_code
def yX7_mayFall : MethodName := ⟨RX7, "mayFall", "()Z"⟩
def RX8 : String := "MiserBridges$Reader"
def TX8 : u_T := fun k => match k with
  | 0 => ("MiserBridges$Reader", "numbers", "[I", true)
  | _ => ("MiserBridges$Reader", "item", "I", false)
def tyX8 : Nat → FieldType := fun k => match k with
  | 0 => .array .int
  | _ => .int
theorem nmX8 : ∀ a, a < 2 → ∀ b, b < 2 → a ≠ b → (TX8 a).2.1 ≠ (TX8 b).2.1 := by decide +kernel
theorem tyX8_ok : ∀ k, k < 2 → parseFieldDescriptor (TX8 k).2.2.1 = some (tyX8 k) := by decide +kernel
abbrev cX8_init : ByteArray := prog_10_method_1_code
def yX8_init : MethodName := ⟨RX8, "<init>", "()V"⟩
abbrev cX8_readInto : ByteArray := prog_10_method_2_code
def yX8_readInto : MethodName := ⟨RX8, "readInto", "(LMiserBridges$Fort;LMiserBridges$Text;)I"⟩
abbrev cX8_readItem : ByteArray := prog_10_method_3_code
def yX8_readItem : MethodName := ⟨RX8, "readItem", "(LMiserBridges$Text;)Z"⟩
abbrev cX8_tell : ByteArray := prog_10_method_4_code
def yX8_tell : MethodName := ⟨RX8, "tell", "(LMiserBridges$Fort;)I"⟩
def RX9 : String := "MiserBridges$Search"
def TX9 : u_T := fun k => match k with
  | 0 => ("MiserBridges$Search", "states", "[I", true)
  | 1 => ("MiserBridges$Search", "seen", "[J", true)
  | 2 => ("MiserBridges$Search", "found", "I", false)
  | 3 => ("MiserBridges$Search", "lyings", "I", false)
  | _ => ("MiserBridges$Search", "goal", "I", false)
def tyX9 : Nat → FieldType := fun k => match k with
  | 0 => .array .int
  | 1 => .array .long
  | 2 => .int
  | 3 => .int
  | _ => .int
theorem nmX9 : ∀ a, a < 5 → ∀ b, b < 5 → a ≠ b → (TX9 a).2.1 ≠ (TX9 b).2.1 := by decide +kernel
theorem tyX9_ok : ∀ k, k < 5 → parseFieldDescriptor (TX9 k).2.2.1 = some (tyX9 k) := by decide +kernel
abbrev cX9_init : ByteArray := prog_11_method_1_code
def yX9_init : MethodName := ⟨RX9, "<init>", "()V"⟩
abbrev cX9_shorter : ByteArray := prog_11_method_2_code
def yX9_shorter : MethodName := ⟨RX9, "shorter", "(LMiserBridges$Fort;III)I"⟩
abbrev cX9_begin : ByteArray := prog_11_method_3_code
def yX9_begin : MethodName := ⟨RX9, "begin", "(I)V"⟩
abbrev cX9_goOn : ByteArray := prog_11_method_4_code
def yX9_goOn : MethodName := ⟨RX9, "goOn", "(LMiserBridges$Fort;I)V"⟩
abbrev cX9_note : ByteArray := prog_11_method_5_code
def yX9_note : MethodName := ⟨RX9, "note", "(II)V"⟩
abbrev cX9_stateAt : ByteArray := prog_11_method_6_code
def yX9_stateAt : MethodName := ⟨RX9, "stateAt", "(I)I"⟩
abbrev cX9_before : ByteArray := prog_11_method_7_code
def yX9_before : MethodName := ⟨RX9, "before", "(I)I"⟩
abbrev cX9_stepOfWay : ByteArray := prog_11_method_8_code
def yX9_stepOfWay : MethodName := ⟨RX9, "stepOfWay", "(II)I"⟩
abbrev cX9_stepBetween : ByteArray := prog_11_method_9_code
def yX9_stepBetween : MethodName := ⟨RX9, "stepBetween", "(II)I"⟩
def RX10 : String := "MiserBridges$Text"
def TX10 : u_T := fun k => match k with
  | 0 => ("MiserBridges$Text", "bytes", "[I", true)
  | 1 => ("MiserBridges$Text", "length", "I", false)
  | 2 => ("MiserBridges$Text", "token", "I", false)
  | 3 => ("MiserBridges$Text", "start", "I", false)
  | 4 => ("MiserBridges$Text", "end", "I", false)
  | _ => ("MiserBridges$Text", "value", "I", false)
def tyX10 : Nat → FieldType := fun k => match k with
  | 0 => .array .int
  | 1 => .int
  | 2 => .int
  | 3 => .int
  | 4 => .int
  | _ => .int
theorem nmX10 : ∀ a, a < 6 → ∀ b, b < 6 → a ≠ b → (TX10 a).2.1 ≠ (TX10 b).2.1 := by decide +kernel
theorem tyX10_ok : ∀ k, k < 6 → parseFieldDescriptor (TX10 k).2.2.1 = some (tyX10 k) := by decide +kernel
abbrev cX10_init : ByteArray := prog_12_method_1_code
def yX10_init : MethodName := ⟨RX10, "<init>", "()V"⟩
abbrev cX10_append : ByteArray := prog_12_method_2_code
def yX10_append : MethodName := ⟨RX10, "append", "(JI)I"⟩
abbrev cX10_wipe : ByteArray := prog_12_method_3_code
def yX10_wipe : MethodName := ⟨RX10, "wipe", "()I"⟩
abbrev cX10_lookAtFirst : ByteArray := prog_12_method_4_code
def yX10_lookAtFirst : MethodName := ⟨RX10, "lookAtFirst", "()V"⟩
abbrev cX10_lookAtNext : ByteArray := prog_12_method_5_code
def yX10_lookAtNext : MethodName := ⟨RX10, "lookAtNext", "()V"⟩
abbrev cX10_takeWord : ByteArray := prog_12_method_6_code
def yX10_takeWord : MethodName := ⟨RX10, "takeWord", "()V"⟩
abbrev cX10_takeNumber : ByteArray := prog_12_method_7_code
def yX10_takeNumber : MethodName := ⟨RX10, "takeNumber", "()V"⟩
abbrev cX10_itemOfWord : ByteArray := prog_12_method_8_code
def yX10_itemOfWord : MethodName := ⟨RX10, "itemOfWord", "()I"⟩
abbrev cX10_isWord : ByteArray := prog_12_method_9_code
def yX10_isWord : MethodName := ⟨RX10, "isWord", "(Ljava/lang/String;)Z"⟩
abbrev cX10_isLetter : ByteArray := prog_12_method_10_code
def yX10_isLetter : MethodName := ⟨RX10, "isLetter", "(I)Z"⟩
abbrev cX10_isFigure : ByteArray := prog_12_method_11_code
def yX10_isFigure : MethodName := ⟨RX10, "isFigure", "(I)Z"⟩
def RX11 : String := "MiserBridges"
def TX11 : u_T := fun k => match k with
  | 0 => ("MiserBridges", "now", "LMiserBridges$Fort;", true)
  | 1 => ("MiserBridges", "trial", "LMiserBridges$Fort;", true)
  | 2 => ("MiserBridges", "images", "[LMiserBridges$Fort;", true)
  | 3 => ("MiserBridges", "kept", "[Z", true)
  | 4 => ("MiserBridges", "text", "LMiserBridges$Text;", true)
  | 5 => ("MiserBridges", "reader", "LMiserBridges$Reader;", true)
  | 6 => ("MiserBridges", "search", "LMiserBridges$Search;", true)
  | 7 => ("MiserBridges", "badCalls", "I", false)
  | 8 => ("MiserBridges", "noCalls", "I", false)
  | _ => ("MiserBridges", "fullCalls", "I", false)
def tyX11 : Nat → FieldType := fun k => match k with
  | 0 => .object "MiserBridges$Fort"
  | 1 => .object "MiserBridges$Fort"
  | 2 => .array (.object "MiserBridges$Fort")
  | 3 => .array .boolean
  | 4 => .object "MiserBridges$Text"
  | 5 => .object "MiserBridges$Reader"
  | 6 => .object "MiserBridges$Search"
  | 7 => .int
  | 8 => .int
  | _ => .int
theorem nmX11 : ∀ a, a < 10 → ∀ b, b < 10 → a ≠ b → (TX11 a).2.1 ≠ (TX11 b).2.1 := by decide +kernel
theorem tyX11_ok : ∀ k, k < 10 → parseFieldDescriptor (TX11 k).2.2.1 = some (tyX11 k) := by decide +kernel
abbrev cX11_init : ByteArray := prog_1_method_1_code
def yX11_init : MethodName := ⟨RX11, "<init>", "()V"⟩
abbrev cX11_bridge : ByteArray := prog_1_method_2_code
def yX11_bridge : MethodName := ⟨RX11, "bridge", "(IIIZ)I"⟩
abbrev cX11_chain : ByteArray := prog_1_method_3_code
def yX11_chain : MethodName := ⟨RX11, "chain", "(III)I"⟩
abbrev cX11_load : ByteArray := prog_1_method_4_code
def yX11_load : MethodName := ⟨RX11, "load", "(II)I"⟩
abbrev cX11_one : ByteArray := prog_1_method_5_code
def yX11_one : MethodName := ⟨RX11, "one", "(II)I"⟩
abbrev cX11_weight : ByteArray := prog_1_method_6_code
def yX11_weight : MethodName := ⟨RX11, "weight", "(I)I"⟩
abbrev cX11_where : ByteArray := prog_1_method_7_code
def yX11_where : MethodName := ⟨RX11, "where", "(I)I"⟩
abbrev cX11_lying : ByteArray := prog_1_method_8_code
def yX11_lying : MethodName := ⟨RX11, "lying", "()I"⟩
abbrev cX11_type : ByteArray := prog_1_method_9_code
def yX11_type : MethodName := ⟨RX11, "type", "(JI)I"⟩
abbrev cX11_clear : ByteArray := prog_1_method_10_code
def yX11_clear : MethodName := ⟨RX11, "clear", "()I"⟩
abbrev cX11_read : ByteArray := prog_1_method_11_code
def yX11_read : MethodName := ⟨RX11, "read", "()I"⟩
abbrev cX11_step : ByteArray := prog_1_method_12_code
def yX11_step : MethodName := ⟨RX11, "step", "(II)I"⟩
abbrev cX11_undo : ByteArray := prog_1_method_13_code
def yX11_undo : MethodName := ⟨RX11, "undo", "()I"⟩
abbrev cX11_way : ByteArray := prog_1_method_14_code
def yX11_way : MethodName := ⟨RX11, "way", "(III)I"⟩
abbrev cX11_reach : ByteArray := prog_1_method_15_code
def yX11_reach : MethodName := ⟨RX11, "reach", "(I)I"⟩
abbrev cX11_can : ByteArray := prog_1_method_16_code
def yX11_can : MethodName := ⟨RX11, "can", "(I)I"⟩
abbrev cX11_closed : ByteArray := prog_1_method_17_code
def yX11_closed : MethodName := ⟨RX11, "closed", "(I)I"⟩
abbrev cX11_child : ByteArray := prog_1_method_18_code
def yX11_child : MethodName := ⟨RX11, "child", "(I)I"⟩
abbrev cX11_cut : ByteArray := prog_1_method_19_code
def yX11_cut : MethodName := ⟨RX11, "cut", "(II)I"⟩
abbrev cX11_tie : ByteArray := prog_1_method_20_code
def yX11_tie : MethodName := ⟨RX11, "tie", "(II)I"⟩
abbrev cX11_stone : ByteArray := prog_1_method_21_code
def yX11_stone : MethodName := ⟨RX11, "stone", "(III)I"⟩
abbrev cX11_keep : ByteArray := prog_1_method_22_code
def yX11_keep : MethodName := ⟨RX11, "keep", "(III)I"⟩
abbrev cX11_wet : ByteArray := prog_1_method_23_code
def yX11_wet : MethodName := ⟨RX11, "wet", "(IIII)I"⟩
abbrev cX11_image : ByteArray := prog_1_method_24_code
def yX11_image : MethodName := ⟨RX11, "image", "(I)I"⟩
abbrev cX11_from : ByteArray := prog_1_method_25_code
def yX11_from : MethodName := ⟨RX11, "from", "(I)I"⟩
abbrev cX11_status : ByteArray := prog_1_method_26_code
def yX11_status : MethodName := ⟨RX11, "status", "(I)I"⟩
abbrev cX11_count : ByteArray := prog_1_method_27_code
def yX11_count : MethodName := ⟨RX11, "count", "(I)I"⟩
abbrev cX11_digest : ByteArray := prog_1_method_28_code
def yX11_digest : MethodName := ⟨RX11, "digest", "()J"⟩
abbrev cX11_counted : ByteArray := prog_1_method_29_code
def yX11_counted : MethodName := ⟨RX11, "counted", "(I)I"⟩
abbrev cX11_stepsNow : ByteArray := prog_1_method_30_code
def yX11_stepsNow : MethodName := ⟨RX11, "stepsNow", "(II)I"⟩
abbrev cX11_lyingsNow : ByteArray := prog_1_method_31_code
def yX11_lyingsNow : MethodName := ⟨RX11, "lyingsNow", "()I"⟩
abbrev cX11_isRoom : ByteArray := prog_1_method_32_code
def yX11_isRoom : MethodName := ⟨RX11, "isRoom", "(I)Z"⟩
abbrev cX11_isStone : ByteArray := prog_1_method_33_code
def yX11_isStone : MethodName := ⟨RX11, "isStone", "(I)Z"⟩
abbrev cX11_isImage : ByteArray := prog_1_method_34_code
def yX11_isImage : MethodName := ⟨RX11, "isImage", "(I)Z"⟩
abbrev cX11_isAmong : ByteArray := prog_1_method_35_code
def yX11_isAmong : MethodName := ⟨RX11, "isAmong", "(II)Z"⟩
abbrev cX11_downInAll : ByteArray := prog_1_method_36_code
def yX11_downInAll : MethodName := ⟨RX11, "downInAll", "(II)I"⟩
abbrev cX11_downInSome : ByteArray := prog_1_method_37_code
def yX11_downInSome : MethodName := ⟨RX11, "downInSome", "(I)I"⟩
abbrev cX11_rowsOf : ByteArray := prog_1_method_38_code
def yX11_rowsOf : MethodName := ⟨RX11, "rowsOf", "(LMiserBridges$Fort;IIII)I"⟩
def RX12 : String := "MiserBridgesModel"
def TX12 : u_T := fun k => match k with
  | 0 => ("MiserBridgesModel", "w", "[I", true)
  | 1 => ("MiserBridgesModel", "isKept", "[Z", true)
  | 2 => ("MiserBridgesModel", "text", "[I", true)
  | 3 => ("MiserBridgesModel", "texted", "I", false)
  | 4 => ("MiserBridgesModel", "refused", "[I", true)
  | 5 => ("MiserBridgesModel", "stones", "[I", true)
  | 6 => ("MiserBridgesModel", "ties", "I", false)
  | 7 => ("MiserBridgesModel", "ones", "[I", true)
  | 8 => ("MiserBridgesModel", "others", "[I", true)
  | 9 => ("MiserBridgesModel", "rusts", "[I", true)
  | 10 => ("MiserBridgesModel", "there", "I", false)
  | 11 => ("MiserBridgesModel", "place", "[I", true)
  | 12 => ("MiserBridgesModel", "lies", "I", false)
  | 13 => ("MiserBridgesModel", "itemWord", "[I", true)
  | 14 => ("MiserBridgesModel", "number", "[I", true)
  | 15 => ("MiserBridgesModel", "items", "I", false)
  | 16 => ("MiserBridgesModel", "at", "I", false)
  | 17 => ("MiserBridgesModel", "fault", "I", false)
  | 18 => ("MiserBridgesModel", "cameBy", "[I", true)
  | 19 => ("MiserBridgesModel", "order", "[I", true)
  | 20 => ("MiserBridgesModel", "ways", "I", false)
  | 21 => ("MiserBridgesModel", "rows", "[I", true)
  | 22 => ("MiserBridgesModel", "rowsThen", "[I", true)
  | _ => ("MiserBridgesModel", "h", "J", false)
def tyX12 : Nat → FieldType := fun k => match k with
  | 0 => .array .int
  | 1 => .array .boolean
  | 2 => .array .int
  | 3 => .int
  | 4 => .array .int
  | 5 => .array .int
  | 6 => .int
  | 7 => .array .int
  | 8 => .array .int
  | 9 => .array .int
  | 10 => .int
  | 11 => .array .int
  | 12 => .int
  | 13 => .array .int
  | 14 => .array .int
  | 15 => .int
  | 16 => .int
  | 17 => .int
  | 18 => .array .int
  | 19 => .array .int
  | 20 => .int
  | 21 => .array .int
  | 22 => .array .int
  | _ => .long
theorem nmX12 : ∀ a, a < 24 → ∀ b, b < 24 → a ≠ b → (TX12 a).2.1 ≠ (TX12 b).2.1 := by decide +kernel
theorem tyX12_ok : ∀ k, k < 24 → parseFieldDescriptor (TX12 k).2.2.1 = some (tyX12 k) := by decide +kernel
abbrev cX12_init : ByteArray := prog_14_method_1_code
def yX12_init : MethodName := ⟨RX12, "<init>", "()V"⟩
abbrev cX12_in : ByteArray := prog_14_method_3_code
def yX12_in : MethodName := ⟨RX12, "in", "(JJJ)Z"⟩
abbrev cX12_has : ByteArray := prog_14_method_4_code
def yX12_has : MethodName := ⟨RX12, "has", "(II)Z"⟩
abbrev cX12_ones : ByteArray := prog_14_method_5_code
def yX12_ones : MethodName := ⟨RX12, "ones", "(I)I"⟩
abbrev cX12_met : ByteArray := prog_14_method_6_code
def yX12_met : MethodName := ⟨RX12, "met", "(I)I"⟩
abbrev cX12_bad : ByteArray := prog_14_method_7_code
def yX12_bad : MethodName := ⟨RX12, "bad", "()I"⟩
abbrev cX12_copy : ByteArray := prog_14_method_8_code
def yX12_copy : MethodName := ⟨RX12, "copy", "(II)V"⟩
abbrev cX12_addBridge : ByteArray := prog_14_method_9_code
def yX12_addBridge : MethodName := ⟨RX12, "addBridge", "(IIIIZ)I"⟩
abbrev cX12_isBridge : ByteArray := prog_14_method_10_code
def yX12_isBridge : MethodName := ⟨RX12, "isBridge", "(II)Z"⟩
abbrev cX12_isTied : ByteArray := prog_14_method_11_code
def yX12_isTied : MethodName := ⟨RX12, "isTied", "(II)Z"⟩
abbrev cX12_addChain : ByteArray := prog_14_method_12_code
def yX12_addChain : MethodName := ⟨RX12, "addChain", "(IIII)I"⟩
abbrev cX12_setLoad : ByteArray := prog_14_method_13_code
def yX12_setLoad : MethodName := ⟨RX12, "setLoad", "(III)I"⟩
abbrev cX12_addOne : ByteArray := prog_14_method_14_code
def yX12_addOne : MethodName := ⟨RX12, "addOne", "(III)I"⟩
abbrev cX12_bridge : ByteArray := prog_14_method_15_code
def yX12_bridge : MethodName := ⟨RX12, "bridge", "(IIIZ)I"⟩
abbrev cX12_chain : ByteArray := prog_14_method_16_code
def yX12_chain : MethodName := ⟨RX12, "chain", "(III)I"⟩
abbrev cX12_load : ByteArray := prog_14_method_17_code
def yX12_load : MethodName := ⟨RX12, "load", "(II)I"⟩
abbrev cX12_one : ByteArray := prog_14_method_18_code
def yX12_one : MethodName := ⟨RX12, "one", "(II)I"⟩
abbrev cX12_layNow : ByteArray := prog_14_method_19_code
def yX12_layNow : MethodName := ⟨RX12, "layNow", "()V"⟩
abbrev cX12_tieMore : ByteArray := prog_14_method_20_code
def yX12_tieMore : MethodName := ⟨RX12, "tieMore", "(III)V"⟩
abbrev cX12_loadOf : ByteArray := prog_14_method_21_code
def yX12_loadOf : MethodName := ⟨RX12, "loadOf", "(I)I"⟩
abbrev cX12_tip : ByteArray := prog_14_method_22_code
def yX12_tip : MethodName := ⟨RX12, "tip", "(II)V"⟩
abbrev cX12_tipAll : ByteArray := prog_14_method_23_code
def yX12_tipAll : MethodName := ⟨RX12, "tipAll", "()V"⟩
abbrev cX12_isOf : ByteArray := prog_14_method_24_code
def yX12_isOf : MethodName := ⟨RX12, "isOf", "(II)Z"⟩
abbrev cX12_mayStep : ByteArray := prog_14_method_25_code
def yX12_mayStep : MethodName := ⟨RX12, "mayStep", "(II)Z"⟩
abbrev cX12_asNow : ByteArray := prog_14_method_26_code
def yX12_asNow : MethodName := ⟨RX12, "asNow", "()V"⟩
abbrev cX12_codeNow : ByteArray := prog_14_method_27_code
def yX12_codeNow : MethodName := ⟨RX12, "codeNow", "()I"⟩
abbrev cX12_decode : ByteArray := prog_14_method_28_code
def yX12_decode : MethodName := ⟨RX12, "decode", "(I)V"⟩
abbrev cX12_weight : ByteArray := prog_14_method_29_code
def yX12_weight : MethodName := ⟨RX12, "weight", "(I)I"⟩
abbrev cX12_isOne : ByteArray := prog_14_method_30_code
def yX12_isOne : MethodName := ⟨RX12, "isOne", "(I)Z"⟩
abbrev cX12_where : ByteArray := prog_14_method_31_code
def yX12_where : MethodName := ⟨RX12, "where", "(I)I"⟩
abbrev cX12_lying : ByteArray := prog_14_method_32_code
def yX12_lying : MethodName := ⟨RX12, "lying", "()I"⟩
abbrev cX12_type : ByteArray := prog_14_method_33_code
def yX12_type : MethodName := ⟨RX12, "type", "(JI)I"⟩
abbrev cX12_clear : ByteArray := prog_14_method_34_code
def yX12_clear : MethodName := ⟨RX12, "clear", "()I"⟩
abbrev cX12_isEnd : ByteArray := prog_14_method_35_code
def yX12_isEnd : MethodName := ⟨RX12, "isEnd", "()Z"⟩
abbrev cX12_wordOf : ByteArray := prog_14_method_36_code
def yX12_wordOf : MethodName := ⟨RX12, "wordOf", "(J)I"⟩
abbrev cX12_takeNumber : ByteArray := prog_14_method_37_code
def yX12_takeNumber : MethodName := ⟨RX12, "takeNumber", "()I"⟩
abbrev cX12_takeItem : ByteArray := prog_14_method_38_code
def yX12_takeItem : MethodName := ⟨RX12, "takeItem", "()V"⟩
abbrev cX12_tellItem : ByteArray := prog_14_method_39_code
def yX12_tellItem : MethodName := ⟨RX12, "tellItem", "(I)I"⟩
abbrev cX12_read : ByteArray := prog_14_method_40_code
def yX12_read : MethodName := ⟨RX12, "read", "()I"⟩
abbrev cX12_isPlace : ByteArray := prog_14_method_41_code
def yX12_isPlace : MethodName := ⟨RX12, "isPlace", "(I)Z"⟩
abbrev cX12_step : ByteArray := prog_14_method_42_code
def yX12_step : MethodName := ⟨RX12, "step", "(II)I"⟩
abbrev cX12_undo : ByteArray := prog_14_method_43_code
def yX12_undo : MethodName := ⟨RX12, "undo", "()I"⟩
abbrev cX12_goAll : ByteArray := prog_14_method_44_code
def yX12_goAll : MethodName := ⟨RX12, "goAll", "()V"⟩
abbrev cX12_findWay : ByteArray := prog_14_method_45_code
def yX12_findWay : MethodName := ⟨RX12, "findWay", "(II)I"⟩
abbrev cX12_stepsTo : ByteArray := prog_14_method_46_code
def yX12_stepsTo : MethodName := ⟨RX12, "stepsTo", "(I)I"⟩
abbrev cX12_stepsOf : ByteArray := prog_14_method_47_code
def yX12_stepsOf : MethodName := ⟨RX12, "stepsOf", "(II)I"⟩
abbrev cX12_areSome : ByteArray := prog_14_method_48_code
def yX12_areSome : MethodName := ⟨RX12, "areSome", "(I)Z"⟩
abbrev cX12_isRoom : ByteArray := prog_14_method_49_code
def yX12_isRoom : MethodName := ⟨RX12, "isRoom", "(I)Z"⟩
abbrev cX12_way : ByteArray := prog_14_method_50_code
def yX12_way : MethodName := ⟨RX12, "way", "(III)I"⟩
abbrev cX12_lyings : ByteArray := prog_14_method_51_code
def yX12_lyings : MethodName := ⟨RX12, "lyings", "()I"⟩
abbrev cX12_allLyings : ByteArray := prog_14_method_52_code
def yX12_allLyings : MethodName := ⟨RX12, "allLyings", "()I"⟩
abbrev cX12_many : ByteArray := prog_14_method_53_code
def yX12_many : MethodName := ⟨RX12, "many", "(I)I"⟩
abbrev cX12_reach : ByteArray := prog_14_method_54_code
def yX12_reach : MethodName := ⟨RX12, "reach", "(I)I"⟩
abbrev cX12_can : ByteArray := prog_14_method_55_code
def yX12_can : MethodName := ⟨RX12, "can", "(I)I"⟩
abbrev cX12_closed : ByteArray := prog_14_method_56_code
def yX12_closed : MethodName := ⟨RX12, "closed", "(I)I"⟩
abbrev cX12_child : ByteArray := prog_14_method_57_code
def yX12_child : MethodName := ⟨RX12, "child", "(I)I"⟩
abbrev cX12_cut : ByteArray := prog_14_method_58_code
def yX12_cut : MethodName := ⟨RX12, "cut", "(II)I"⟩
abbrev cX12_tie : ByteArray := prog_14_method_59_code
def yX12_tie : MethodName := ⟨RX12, "tie", "(II)I"⟩
abbrev cX12_stone : ByteArray := prog_14_method_60_code
def yX12_stone : MethodName := ⟨RX12, "stone", "(III)I"⟩
abbrev cX12_keep : ByteArray := prog_14_method_61_code
def yX12_keep : MethodName := ⟨RX12, "keep", "(III)I"⟩
abbrev cX12_wet : ByteArray := prog_14_method_62_code
def yX12_wet : MethodName := ⟨RX12, "wet", "(IIII)I"⟩
abbrev cX12_image : ByteArray := prog_14_method_63_code
def yX12_image : MethodName := ⟨RX12, "image", "(I)I"⟩
abbrev cX12_from : ByteArray := prog_14_method_64_code
def yX12_from : MethodName := ⟨RX12, "from", "(I)I"⟩
abbrev cX12_status : ByteArray := prog_14_method_65_code
def yX12_status : MethodName := ⟨RX12, "status", "(I)I"⟩
abbrev cX12_countOf : ByteArray := prog_14_method_66_code
def yX12_countOf : MethodName := ⟨RX12, "countOf", "(I)I"⟩
abbrev cX12_count : ByteArray := prog_14_method_67_code
def yX12_count : MethodName := ⟨RX12, "count", "(I)I"⟩
abbrev cX12_mix : ByteArray := prog_14_method_68_code
def yX12_mix : MethodName := ⟨RX12, "mix", "(J)V"⟩
abbrev cX12_digest : ByteArray := prog_14_method_69_code
def yX12_digest : MethodName := ⟨RX12, "digest", "()J"⟩
def RJx145de : String := "java/io/Serializable"
def RJx9f9b0 : String := "java/lang/CharSequence"
def RJxb160c : String := "java/lang/Comparable"
def RJ6 : String := "java/lang/Integer"
abbrev cJ6_bitCount_0f7a4 : ByteArray := prog_15_method_49_code
def yJ6_bitCount_0f7a4 : MethodName := ⟨RJ6, "bitCount", "(I)I"⟩
def RJ9 : String := "java/lang/Math"
abbrev cJ9_max_7cf53 : ByteArray := prog_16_method_65_code
def yJ9_max_7cf53 : MethodName := ⟨RJ9, "max", "(II)I"⟩
abbrev cJ9_min_7cf53 : ByteArray := prog_16_method_69_code
def yJ9_min_7cf53 : MethodName := ⟨RJ9, "min", "(II)I"⟩
def RJ0 : String := "java/lang/String"
abbrev cJ0_length_8abf5 : ByteArray := prog_17_method_54_code
def yJ0_length_8abf5 : MethodName := ⟨RJ0, "length", "()I"⟩
abbrev cJ0_charAt_5068e : ByteArray := prog_17_method_56_code
def yJ0_charAt_5068e : MethodName := ⟨RJ0, "charAt", "(I)C"⟩
abbrev cJ0_coder_7d493 : ByteArray := prog_17_method_152_code
def yJ0_coder_7d493 : MethodName := ⟨RJ0, "coder", "()B"⟩
abbrev cJ0_isLatin1_aae02 : ByteArray := prog_17_method_154_code
def yJ0_isLatin1_aae02 : MethodName := ⟨RJ0, "isLatin1", "()Z"⟩
abbrev cJ0_checkIndex_df160 : ByteArray := prog_17_method_155_code
def yJ0_checkIndex_df160 : MethodName := ⟨RJ0, "checkIndex", "(II)V"⟩
def RJ1 : String := "java/lang/StringLatin1"
abbrev cJ1_charAt_3b067 : ByteArray := prog_18_method_2_code
def yJ1_charAt_3b067 : MethodName := ⟨RJ1, "charAt", "([BI)C"⟩
def RJ2 : String := "java/lang/StringUTF16"
abbrev cJ2_getChar_3b067 : ByteArray := prog_19_method_5_code
def yJ2_getChar_3b067 : MethodName := ⟨RJ2, "getChar", "([BI)C"⟩
abbrev cJ2_length_9d52b : ByteArray := prog_19_method_6_code
def yJ2_length_9d52b : MethodName := ⟨RJ2, "length", "([B)I"⟩
abbrev cJ2_charAt_3b067 : ByteArray := prog_19_method_83_code
def yJ2_charAt_3b067 : MethodName := ⟨RJ2, "charAt", "([BI)C"⟩
abbrev cJ2_checkIndex_2214a : ByteArray := prog_19_method_91_code
def yJ2_checkIndex_2214a : MethodName := ⟨RJ2, "checkIndex", "(I[B)V"⟩
def RJ10 : String := "java/lang/System"
def RJxfd54e : String := "java/lang/constant/Constable"
def RJx3cf43 : String := "java/lang/constant/ConstantDesc"
def RJ7 : String := "java/util/Arrays"
abbrev cJ7_fill_d0a16 : ByteArray := prog_21_method_101_code
def yJ7_fill_d0a16 : MethodName := ⟨RJ7, "fill", "([JJ)V"⟩
def RJ3 : String := "jdk/internal/util/Preconditions"
abbrev cJ3_checkIndex_8e157 : ByteArray := prog_22_method_11_code
def yJ3_checkIndex_8e157 : MethodName := ⟨RJ3, "checkIndex", "(IILjava/util/function/BiFunction;)I"⟩
def RL : String := "MiserBridgesLaw"
abbrev cL_law : ByteArray := code
def yL_law : MethodName := ⟨RL, "law", "([I)Z"⟩
abbrev vwCl : List vw_C := [(RX0, TX0, 0), (RX1, TX1, 0), (RX2, TX2, 15), (RX3, TX3, 0), (RX4, TX4, 0), (RX5, TX5, 0), (RX6, TX6, 2), (RX7, TX7, 0), (RX8, TX8, 2), (RX9, TX9, 5), (RX10, TX10, 6), (RX11, TX11, 10), (RX12, TX12, 24)]
