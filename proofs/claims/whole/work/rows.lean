section
-- ===== PART A: goes FIRST, ahead of the names: the tables' words, and 'selects' of the private methods out of them =====
/-- a private method of a class that the tables say can be made, by its rows of tables_1 -/
def lw_okq (q : MethodName × Nat) : Prop := (q.1.cls ≠ "java/lang/invoke/MethodHandle" ∧ q.1.cls ≠ "java/lang/invoke/VarHandle") ∧ Cond.instantiable q.1.cls q.2 ∈ tables_1 ∧ Cond.privateMethod q.1 ∈ tables_1 ∧ Cond.instanceMethod q.1 ∈ tables_1
theorem lw_p0 : lw_okq (⟨"MiserBridges", "counted", "(I)I"⟩, 10) := ⟨⟨by decide +kernel, by decide +kernel⟩, List.mem_of_getElem? (i := 23) (by decide +kernel), List.mem_of_getElem? (i := 265) (by decide +kernel), List.mem_of_getElem? (i := 266) (by decide +kernel)⟩
theorem lw_p1 : lw_okq (⟨"MiserBridges$Fort", "isTied", "(I)Z"⟩, 15) := ⟨⟨by decide +kernel, by decide +kernel⟩, List.mem_of_getElem? (i := 31) (by decide +kernel), List.mem_of_getElem? (i := 281) (by decide +kernel), List.mem_of_getElem? (i := 282) (by decide +kernel)⟩
theorem lw_p2 : lw_okq (⟨"MiserBridges$Text", "takeWord", "()V"⟩, 6) := ⟨⟨by decide +kernel, by decide +kernel⟩, List.mem_of_getElem? (i := 151) (by decide +kernel), List.mem_of_getElem? (i := 379) (by decide +kernel), List.mem_of_getElem? (i := 380) (by decide +kernel)⟩
theorem lw_p3 : lw_okq (⟨"MiserBridges$Text", "itemOfWord", "()I"⟩, 6) := ⟨⟨by decide +kernel, by decide +kernel⟩, List.mem_of_getElem? (i := 151) (by decide +kernel), List.mem_of_getElem? (i := 383) (by decide +kernel), List.mem_of_getElem? (i := 384) (by decide +kernel)⟩
theorem lw_p4 : lw_okq (⟨"MiserBridges$Text", "isWord", "(Ljava/lang/String;)Z"⟩, 6) := ⟨⟨by decide +kernel, by decide +kernel⟩, List.mem_of_getElem? (i := 151) (by decide +kernel), List.mem_of_getElem? (i := 388) (by decide +kernel), List.mem_of_getElem? (i := 389) (by decide +kernel)⟩
theorem lw_p5 : lw_okq (⟨"MiserBridges$Text", "takeNumber", "()V"⟩, 6) := ⟨⟨by decide +kernel, by decide +kernel⟩, List.mem_of_getElem? (i := 151) (by decide +kernel), List.mem_of_getElem? (i := 447) (by decide +kernel), List.mem_of_getElem? (i := 448) (by decide +kernel)⟩
theorem lw_p6 : lw_okq (⟨"MiserBridges$Reader", "readItem", "(LMiserBridges$Text;)Z"⟩, 2) := ⟨⟨by decide +kernel, by decide +kernel⟩, List.mem_of_getElem? (i := 181) (by decide +kernel), List.mem_of_getElem? (i := 451) (by decide +kernel), List.mem_of_getElem? (i := 452) (by decide +kernel)⟩
theorem lw_p7 : lw_okq (⟨"MiserBridges$Reader", "tell", "(LMiserBridges$Fort;)I"⟩, 2) := ⟨⟨by decide +kernel, by decide +kernel⟩, List.mem_of_getElem? (i := 181) (by decide +kernel), List.mem_of_getElem? (i := 458) (by decide +kernel), List.mem_of_getElem? (i := 459) (by decide +kernel)⟩
theorem lw_p8 : lw_okq (⟨"MiserBridges$Fort", "isDown", "(I)Z"⟩, 15) := ⟨⟨by decide +kernel, by decide +kernel⟩, List.mem_of_getElem? (i := 31) (by decide +kernel), List.mem_of_getElem? (i := 497) (by decide +kernel), List.mem_of_getElem? (i := 498) (by decide +kernel)⟩
theorem lw_p9 : lw_okq (⟨"MiserBridges$Fort", "joins", "(II)Z"⟩, 15) := ⟨⟨by decide +kernel, by decide +kernel⟩, List.mem_of_getElem? (i := 31) (by decide +kernel), List.mem_of_getElem? (i := 501) (by decide +kernel), List.mem_of_getElem? (i := 502) (by decide +kernel)⟩
theorem lw_p10 : lw_okq (⟨"MiserBridges$Fort", "tip", "(II)V"⟩, 15) := ⟨⟨by decide +kernel, by decide +kernel⟩, List.mem_of_getElem? (i := 31) (by decide +kernel), List.mem_of_getElem? (i := 518) (by decide +kernel), List.mem_of_getElem? (i := 519) (by decide +kernel)⟩
theorem lw_p11 : lw_okq (⟨"MiserBridges", "stepsNow", "(II)I"⟩, 10) := ⟨⟨by decide +kernel, by decide +kernel⟩, List.mem_of_getElem? (i := 23) (by decide +kernel), List.mem_of_getElem? (i := 567) (by decide +kernel), List.mem_of_getElem? (i := 568) (by decide +kernel)⟩
theorem lw_p12 : lw_okq (⟨"MiserBridges$Search", "begin", "(I)V"⟩, 5) := ⟨⟨by decide +kernel, by decide +kernel⟩, List.mem_of_getElem? (i := 194) (by decide +kernel), List.mem_of_getElem? (i := 576) (by decide +kernel), List.mem_of_getElem? (i := 577) (by decide +kernel)⟩
theorem lw_p13 : lw_okq (⟨"MiserBridges$Search", "note", "(II)V"⟩, 5) := ⟨⟨by decide +kernel, by decide +kernel⟩, List.mem_of_getElem? (i := 194) (by decide +kernel), List.mem_of_getElem? (i := 583) (by decide +kernel), List.mem_of_getElem? (i := 584) (by decide +kernel)⟩
theorem lw_p14 : lw_okq (⟨"MiserBridges$Search", "stateAt", "(I)I"⟩, 5) := ⟨⟨by decide +kernel, by decide +kernel⟩, List.mem_of_getElem? (i := 194) (by decide +kernel), List.mem_of_getElem? (i := 587) (by decide +kernel), List.mem_of_getElem? (i := 588) (by decide +kernel)⟩
theorem lw_p15 : lw_okq (⟨"MiserBridges$Search", "goOn", "(LMiserBridges$Fort;I)V"⟩, 5) := ⟨⟨by decide +kernel, by decide +kernel⟩, List.mem_of_getElem? (i := 194) (by decide +kernel), List.mem_of_getElem? (i := 596) (by decide +kernel), List.mem_of_getElem? (i := 597) (by decide +kernel)⟩
def lw_privs_1 : List (MethodName × Nat) := [(⟨"MiserBridges", "counted", "(I)I"⟩, 10), (⟨"MiserBridges$Fort", "isTied", "(I)Z"⟩, 15), (⟨"MiserBridges$Text", "takeWord", "()V"⟩, 6), (⟨"MiserBridges$Text", "itemOfWord", "()I"⟩, 6), (⟨"MiserBridges$Text", "isWord", "(Ljava/lang/String;)Z"⟩, 6), (⟨"MiserBridges$Text", "takeNumber", "()V"⟩, 6), (⟨"MiserBridges$Reader", "readItem", "(LMiserBridges$Text;)Z"⟩, 2), (⟨"MiserBridges$Reader", "tell", "(LMiserBridges$Fort;)I"⟩, 2), (⟨"MiserBridges$Fort", "isDown", "(I)Z"⟩, 15), (⟨"MiserBridges$Fort", "joins", "(II)Z"⟩, 15), (⟨"MiserBridges$Fort", "tip", "(II)V"⟩, 15), (⟨"MiserBridges", "stepsNow", "(II)I"⟩, 10), (⟨"MiserBridges$Search", "begin", "(I)V"⟩, 5), (⟨"MiserBridges$Search", "note", "(II)V"⟩, 5), (⟨"MiserBridges$Search", "stateAt", "(I)I"⟩, 5), (⟨"MiserBridges$Search", "goOn", "(LMiserBridges$Fort;I)V"⟩, 5)]
theorem lw_r1 : ∀ q ∈ lw_privs_1, lw_okq q := List.forall_mem_cons.mpr ⟨lw_p0, List.forall_mem_cons.mpr ⟨lw_p1, List.forall_mem_cons.mpr ⟨lw_p2, List.forall_mem_cons.mpr ⟨lw_p3, List.forall_mem_cons.mpr ⟨lw_p4, List.forall_mem_cons.mpr ⟨lw_p5, List.forall_mem_cons.mpr ⟨lw_p6, List.forall_mem_cons.mpr ⟨lw_p7, List.forall_mem_cons.mpr ⟨lw_p8, List.forall_mem_cons.mpr ⟨lw_p9, List.forall_mem_cons.mpr ⟨lw_p10, List.forall_mem_cons.mpr ⟨lw_p11, List.forall_mem_cons.mpr ⟨lw_p12, List.forall_mem_cons.mpr ⟨lw_p13, List.forall_mem_cons.mpr ⟨lw_p14, List.forall_mem_cons.mpr ⟨lw_p15, fun _ h => absurd h List.not_mem_nil⟩⟩⟩⟩⟩⟩⟩⟩⟩⟩⟩⟩⟩⟩⟩⟩
theorem lw_p16 : lw_okq (⟨"MiserBridges$Search", "before", "(I)I"⟩, 5) := ⟨⟨by decide +kernel, by decide +kernel⟩, List.mem_of_getElem? (i := 194) (by decide +kernel), List.mem_of_getElem? (i := 606) (by decide +kernel), List.mem_of_getElem? (i := 607) (by decide +kernel)⟩
theorem lw_p17 : lw_okq (⟨"MiserBridges", "lyingsNow", "()I"⟩, 10) := ⟨⟨by decide +kernel, by decide +kernel⟩, List.mem_of_getElem? (i := 23) (by decide +kernel), List.mem_of_getElem? (i := 617) (by decide +kernel), List.mem_of_getElem? (i := 618) (by decide +kernel)⟩
theorem lw_p18 : lw_okq (⟨"MiserBridgesModel", "addBridge", "(IIIIZ)I"⟩, 24) := ⟨⟨by decide +kernel, by decide +kernel⟩, List.mem_of_getElem? (i := 733) (by decide +kernel), List.mem_of_getElem? (i := 816) (by decide +kernel), List.mem_of_getElem? (i := 817) (by decide +kernel)⟩
theorem lw_p19 : lw_okq (⟨"MiserBridgesModel", "met", "(I)I"⟩, 24) := ⟨⟨by decide +kernel, by decide +kernel⟩, List.mem_of_getElem? (i := 733) (by decide +kernel), List.mem_of_getElem? (i := 825) (by decide +kernel), List.mem_of_getElem? (i := 826) (by decide +kernel)⟩
theorem lw_p20 : lw_okq (⟨"MiserBridgesModel", "addChain", "(IIII)I"⟩, 24) := ⟨⟨by decide +kernel, by decide +kernel⟩, List.mem_of_getElem? (i := 733) (by decide +kernel), List.mem_of_getElem? (i := 833) (by decide +kernel), List.mem_of_getElem? (i := 834) (by decide +kernel)⟩
theorem lw_p21 : lw_okq (⟨"MiserBridgesModel", "isBridge", "(II)Z"⟩, 24) := ⟨⟨by decide +kernel, by decide +kernel⟩, List.mem_of_getElem? (i := 733) (by decide +kernel), List.mem_of_getElem? (i := 837) (by decide +kernel), List.mem_of_getElem? (i := 838) (by decide +kernel)⟩
theorem lw_p22 : lw_okq (⟨"MiserBridgesModel", "isTied", "(II)Z"⟩, 24) := ⟨⟨by decide +kernel, by decide +kernel⟩, List.mem_of_getElem? (i := 733) (by decide +kernel), List.mem_of_getElem? (i := 842) (by decide +kernel), List.mem_of_getElem? (i := 843) (by decide +kernel)⟩
theorem lw_p23 : lw_okq (⟨"MiserBridgesModel", "setLoad", "(III)I"⟩, 24) := ⟨⟨by decide +kernel, by decide +kernel⟩, List.mem_of_getElem? (i := 733) (by decide +kernel), List.mem_of_getElem? (i := 850) (by decide +kernel), List.mem_of_getElem? (i := 851) (by decide +kernel)⟩
theorem lw_p24 : lw_okq (⟨"MiserBridgesModel", "addOne", "(III)I"⟩, 24) := ⟨⟨by decide +kernel, by decide +kernel⟩, List.mem_of_getElem? (i := 733) (by decide +kernel), List.mem_of_getElem? (i := 859) (by decide +kernel), List.mem_of_getElem? (i := 860) (by decide +kernel)⟩
theorem lw_p25 : lw_okq (⟨"MiserBridgesModel", "bad", "()I"⟩, 24) := ⟨⟨by decide +kernel, by decide +kernel⟩, List.mem_of_getElem? (i := 733) (by decide +kernel), List.mem_of_getElem? (i := 867) (by decide +kernel), List.mem_of_getElem? (i := 868) (by decide +kernel)⟩
theorem lw_p26 : lw_okq (⟨"MiserBridgesModel", "layNow", "()V"⟩, 24) := ⟨⟨by decide +kernel, by decide +kernel⟩, List.mem_of_getElem? (i := 733) (by decide +kernel), List.mem_of_getElem? (i := 871) (by decide +kernel), List.mem_of_getElem? (i := 872) (by decide +kernel)⟩
theorem lw_p27 : lw_okq (⟨"MiserBridgesModel", "tieMore", "(III)V"⟩, 24) := ⟨⟨by decide +kernel, by decide +kernel⟩, List.mem_of_getElem? (i := 733) (by decide +kernel), List.mem_of_getElem? (i := 875) (by decide +kernel), List.mem_of_getElem? (i := 876) (by decide +kernel)⟩
theorem lw_p28 : lw_okq (⟨"MiserBridgesModel", "asNow", "()V"⟩, 24) := ⟨⟨by decide +kernel, by decide +kernel⟩, List.mem_of_getElem? (i := 733) (by decide +kernel), List.mem_of_getElem? (i := 879) (by decide +kernel), List.mem_of_getElem? (i := 880) (by decide +kernel)⟩
theorem lw_p29 : lw_okq (⟨"MiserBridgesModel", "loadOf", "(I)I"⟩, 24) := ⟨⟨by decide +kernel, by decide +kernel⟩, List.mem_of_getElem? (i := 733) (by decide +kernel), List.mem_of_getElem? (i := 886) (by decide +kernel), List.mem_of_getElem? (i := 887) (by decide +kernel)⟩
theorem lw_p30 : lw_okq (⟨"MiserBridgesModel", "isOne", "(I)Z"⟩, 24) := ⟨⟨by decide +kernel, by decide +kernel⟩, List.mem_of_getElem? (i := 733) (by decide +kernel), List.mem_of_getElem? (i := 894) (by decide +kernel), List.mem_of_getElem? (i := 895) (by decide +kernel)⟩
theorem lw_p31 : lw_okq (⟨"MiserBridgesModel", "isEnd", "()Z"⟩, 24) := ⟨⟨by decide +kernel, by decide +kernel⟩, List.mem_of_getElem? (i := 733) (by decide +kernel), List.mem_of_getElem? (i := 916) (by decide +kernel), List.mem_of_getElem? (i := 917) (by decide +kernel)⟩
def lw_privs_2 : List (MethodName × Nat) := [(⟨"MiserBridges$Search", "before", "(I)I"⟩, 5), (⟨"MiserBridges", "lyingsNow", "()I"⟩, 10), (⟨"MiserBridgesModel", "addBridge", "(IIIIZ)I"⟩, 24), (⟨"MiserBridgesModel", "met", "(I)I"⟩, 24), (⟨"MiserBridgesModel", "addChain", "(IIII)I"⟩, 24), (⟨"MiserBridgesModel", "isBridge", "(II)Z"⟩, 24), (⟨"MiserBridgesModel", "isTied", "(II)Z"⟩, 24), (⟨"MiserBridgesModel", "setLoad", "(III)I"⟩, 24), (⟨"MiserBridgesModel", "addOne", "(III)I"⟩, 24), (⟨"MiserBridgesModel", "bad", "()I"⟩, 24), (⟨"MiserBridgesModel", "layNow", "()V"⟩, 24), (⟨"MiserBridgesModel", "tieMore", "(III)V"⟩, 24), (⟨"MiserBridgesModel", "asNow", "()V"⟩, 24), (⟨"MiserBridgesModel", "loadOf", "(I)I"⟩, 24), (⟨"MiserBridgesModel", "isOne", "(I)Z"⟩, 24), (⟨"MiserBridgesModel", "isEnd", "()Z"⟩, 24)]
theorem lw_r2 : ∀ q ∈ lw_privs_2, lw_okq q := List.forall_mem_cons.mpr ⟨lw_p16, List.forall_mem_cons.mpr ⟨lw_p17, List.forall_mem_cons.mpr ⟨lw_p18, List.forall_mem_cons.mpr ⟨lw_p19, List.forall_mem_cons.mpr ⟨lw_p20, List.forall_mem_cons.mpr ⟨lw_p21, List.forall_mem_cons.mpr ⟨lw_p22, List.forall_mem_cons.mpr ⟨lw_p23, List.forall_mem_cons.mpr ⟨lw_p24, List.forall_mem_cons.mpr ⟨lw_p25, List.forall_mem_cons.mpr ⟨lw_p26, List.forall_mem_cons.mpr ⟨lw_p27, List.forall_mem_cons.mpr ⟨lw_p28, List.forall_mem_cons.mpr ⟨lw_p29, List.forall_mem_cons.mpr ⟨lw_p30, List.forall_mem_cons.mpr ⟨lw_p31, fun _ h => absurd h List.not_mem_nil⟩⟩⟩⟩⟩⟩⟩⟩⟩⟩⟩⟩⟩⟩⟩⟩
theorem lw_p32 : lw_okq (⟨"MiserBridgesModel", "takeItem", "()V"⟩, 24) := ⟨⟨by decide +kernel, by decide +kernel⟩, List.mem_of_getElem? (i := 733) (by decide +kernel), List.mem_of_getElem? (i := 920) (by decide +kernel), List.mem_of_getElem? (i := 921) (by decide +kernel)⟩
theorem lw_p33 : lw_okq (⟨"MiserBridgesModel", "takeNumber", "()I"⟩, 24) := ⟨⟨by decide +kernel, by decide +kernel⟩, List.mem_of_getElem? (i := 733) (by decide +kernel), List.mem_of_getElem? (i := 936) (by decide +kernel), List.mem_of_getElem? (i := 937) (by decide +kernel)⟩
theorem lw_p34 : lw_okq (⟨"MiserBridgesModel", "tellItem", "(I)I"⟩, 24) := ⟨⟨by decide +kernel, by decide +kernel⟩, List.mem_of_getElem? (i := 733) (by decide +kernel), List.mem_of_getElem? (i := 942) (by decide +kernel), List.mem_of_getElem? (i := 943) (by decide +kernel)⟩
theorem lw_p35 : lw_okq (⟨"MiserBridgesModel", "copy", "(II)V"⟩, 24) := ⟨⟨by decide +kernel, by decide +kernel⟩, List.mem_of_getElem? (i := 733) (by decide +kernel), List.mem_of_getElem? (i := 946) (by decide +kernel), List.mem_of_getElem? (i := 947) (by decide +kernel)⟩
theorem lw_p36 : lw_okq (⟨"MiserBridgesModel", "isPlace", "(I)Z"⟩, 24) := ⟨⟨by decide +kernel, by decide +kernel⟩, List.mem_of_getElem? (i := 733) (by decide +kernel), List.mem_of_getElem? (i := 954) (by decide +kernel), List.mem_of_getElem? (i := 955) (by decide +kernel)⟩
theorem lw_p37 : lw_okq (⟨"MiserBridgesModel", "mayStep", "(II)Z"⟩, 24) := ⟨⟨by decide +kernel, by decide +kernel⟩, List.mem_of_getElem? (i := 733) (by decide +kernel), List.mem_of_getElem? (i := 958) (by decide +kernel), List.mem_of_getElem? (i := 959) (by decide +kernel)⟩
theorem lw_p38 : lw_okq (⟨"MiserBridgesModel", "isOf", "(II)Z"⟩, 24) := ⟨⟨by decide +kernel, by decide +kernel⟩, List.mem_of_getElem? (i := 733) (by decide +kernel), List.mem_of_getElem? (i := 962) (by decide +kernel), List.mem_of_getElem? (i := 963) (by decide +kernel)⟩
theorem lw_p39 : lw_okq (⟨"MiserBridgesModel", "tipAll", "()V"⟩, 24) := ⟨⟨by decide +kernel, by decide +kernel⟩, List.mem_of_getElem? (i := 733) (by decide +kernel), List.mem_of_getElem? (i := 966) (by decide +kernel), List.mem_of_getElem? (i := 967) (by decide +kernel)⟩
theorem lw_p40 : lw_okq (⟨"MiserBridgesModel", "tip", "(II)V"⟩, 24) := ⟨⟨by decide +kernel, by decide +kernel⟩, List.mem_of_getElem? (i := 733) (by decide +kernel), List.mem_of_getElem? (i := 970) (by decide +kernel), List.mem_of_getElem? (i := 971) (by decide +kernel)⟩
theorem lw_p41 : lw_okq (⟨"MiserBridgesModel", "areSome", "(I)Z"⟩, 24) := ⟨⟨by decide +kernel, by decide +kernel⟩, List.mem_of_getElem? (i := 733) (by decide +kernel), List.mem_of_getElem? (i := 982) (by decide +kernel), List.mem_of_getElem? (i := 983) (by decide +kernel)⟩
theorem lw_p42 : lw_okq (⟨"MiserBridgesModel", "findWay", "(II)I"⟩, 24) := ⟨⟨by decide +kernel, by decide +kernel⟩, List.mem_of_getElem? (i := 733) (by decide +kernel), List.mem_of_getElem? (i := 989) (by decide +kernel), List.mem_of_getElem? (i := 990) (by decide +kernel)⟩
theorem lw_p43 : lw_okq (⟨"MiserBridgesModel", "goAll", "()V"⟩, 24) := ⟨⟨by decide +kernel, by decide +kernel⟩, List.mem_of_getElem? (i := 733) (by decide +kernel), List.mem_of_getElem? (i := 993) (by decide +kernel), List.mem_of_getElem? (i := 994) (by decide +kernel)⟩
theorem lw_p44 : lw_okq (⟨"MiserBridgesModel", "codeNow", "()I"⟩, 24) := ⟨⟨by decide +kernel, by decide +kernel⟩, List.mem_of_getElem? (i := 733) (by decide +kernel), List.mem_of_getElem? (i := 997) (by decide +kernel), List.mem_of_getElem? (i := 998) (by decide +kernel)⟩
theorem lw_p45 : lw_okq (⟨"MiserBridgesModel", "decode", "(I)V"⟩, 24) := ⟨⟨by decide +kernel, by decide +kernel⟩, List.mem_of_getElem? (i := 733) (by decide +kernel), List.mem_of_getElem? (i := 1001) (by decide +kernel), List.mem_of_getElem? (i := 1002) (by decide +kernel)⟩
theorem lw_p46 : lw_okq (⟨"MiserBridgesModel", "stepsTo", "(I)I"⟩, 24) := ⟨⟨by decide +kernel, by decide +kernel⟩, List.mem_of_getElem? (i := 733) (by decide +kernel), List.mem_of_getElem? (i := 1005) (by decide +kernel), List.mem_of_getElem? (i := 1006) (by decide +kernel)⟩
theorem lw_p47 : lw_okq (⟨"MiserBridgesModel", "allLyings", "()I"⟩, 24) := ⟨⟨by decide +kernel, by decide +kernel⟩, List.mem_of_getElem? (i := 733) (by decide +kernel), List.mem_of_getElem? (i := 1014) (by decide +kernel), List.mem_of_getElem? (i := 1015) (by decide +kernel)⟩
def lw_privs_3 : List (MethodName × Nat) := [(⟨"MiserBridgesModel", "takeItem", "()V"⟩, 24), (⟨"MiserBridgesModel", "takeNumber", "()I"⟩, 24), (⟨"MiserBridgesModel", "tellItem", "(I)I"⟩, 24), (⟨"MiserBridgesModel", "copy", "(II)V"⟩, 24), (⟨"MiserBridgesModel", "isPlace", "(I)Z"⟩, 24), (⟨"MiserBridgesModel", "mayStep", "(II)Z"⟩, 24), (⟨"MiserBridgesModel", "isOf", "(II)Z"⟩, 24), (⟨"MiserBridgesModel", "tipAll", "()V"⟩, 24), (⟨"MiserBridgesModel", "tip", "(II)V"⟩, 24), (⟨"MiserBridgesModel", "areSome", "(I)Z"⟩, 24), (⟨"MiserBridgesModel", "findWay", "(II)I"⟩, 24), (⟨"MiserBridgesModel", "goAll", "()V"⟩, 24), (⟨"MiserBridgesModel", "codeNow", "()I"⟩, 24), (⟨"MiserBridgesModel", "decode", "(I)V"⟩, 24), (⟨"MiserBridgesModel", "stepsTo", "(I)I"⟩, 24), (⟨"MiserBridgesModel", "allLyings", "()I"⟩, 24)]
theorem lw_r3 : ∀ q ∈ lw_privs_3, lw_okq q := List.forall_mem_cons.mpr ⟨lw_p32, List.forall_mem_cons.mpr ⟨lw_p33, List.forall_mem_cons.mpr ⟨lw_p34, List.forall_mem_cons.mpr ⟨lw_p35, List.forall_mem_cons.mpr ⟨lw_p36, List.forall_mem_cons.mpr ⟨lw_p37, List.forall_mem_cons.mpr ⟨lw_p38, List.forall_mem_cons.mpr ⟨lw_p39, List.forall_mem_cons.mpr ⟨lw_p40, List.forall_mem_cons.mpr ⟨lw_p41, List.forall_mem_cons.mpr ⟨lw_p42, List.forall_mem_cons.mpr ⟨lw_p43, List.forall_mem_cons.mpr ⟨lw_p44, List.forall_mem_cons.mpr ⟨lw_p45, List.forall_mem_cons.mpr ⟨lw_p46, List.forall_mem_cons.mpr ⟨lw_p47, fun _ h => absurd h List.not_mem_nil⟩⟩⟩⟩⟩⟩⟩⟩⟩⟩⟩⟩⟩⟩⟩⟩
theorem lw_p48 : lw_okq (⟨"MiserBridgesModel", "lyings", "()I"⟩, 24) := ⟨⟨by decide +kernel, by decide +kernel⟩, List.mem_of_getElem? (i := 733) (by decide +kernel), List.mem_of_getElem? (i := 1018) (by decide +kernel), List.mem_of_getElem? (i := 1019) (by decide +kernel)⟩
theorem lw_p49 : lw_okq (⟨"MiserBridgesModel", "stepsOf", "(II)I"⟩, 24) := ⟨⟨by decide +kernel, by decide +kernel⟩, List.mem_of_getElem? (i := 733) (by decide +kernel), List.mem_of_getElem? (i := 1041) (by decide +kernel), List.mem_of_getElem? (i := 1042) (by decide +kernel)⟩
theorem lw_p50 : lw_okq (⟨"MiserBridgesModel", "countOf", "(I)I"⟩, 24) := ⟨⟨by decide +kernel, by decide +kernel⟩, List.mem_of_getElem? (i := 733) (by decide +kernel), List.mem_of_getElem? (i := 1083) (by decide +kernel), List.mem_of_getElem? (i := 1084) (by decide +kernel)⟩
theorem lw_p51 : lw_okq (⟨"MiserBridgesModel", "mix", "(J)V"⟩, 24) := ⟨⟨by decide +kernel, by decide +kernel⟩, List.mem_of_getElem? (i := 733) (by decide +kernel), List.mem_of_getElem? (i := 1092) (by decide +kernel), List.mem_of_getElem? (i := 1093) (by decide +kernel)⟩
def lw_privs_4 : List (MethodName × Nat) := [(⟨"MiserBridgesModel", "lyings", "()I"⟩, 24), (⟨"MiserBridgesModel", "stepsOf", "(II)I"⟩, 24), (⟨"MiserBridgesModel", "countOf", "(I)I"⟩, 24), (⟨"MiserBridgesModel", "mix", "(J)V"⟩, 24)]
theorem lw_r4 : ∀ q ∈ lw_privs_4, lw_okq q := List.forall_mem_cons.mpr ⟨lw_p48, List.forall_mem_cons.mpr ⟨lw_p49, List.forall_mem_cons.mpr ⟨lw_p50, List.forall_mem_cons.mpr ⟨lw_p51, fun _ h => absurd h List.not_mem_nil⟩⟩⟩⟩
def lw_privs : List (MethodName × Nat) := lw_privs_1 ++ (lw_privs_2 ++ (lw_privs_3 ++ (lw_privs_4)))
def lw_tbl : List Cond := k2_sels lw_privs ++ tables_1
theorem lw_privs_ok : ∀ q ∈ lw_privs, lw_okq q := by
  show ∀ q ∈ lw_privs_1 ++ (lw_privs_2 ++ (lw_privs_3 ++ (lw_privs_4))), lw_okq q
  exact List.forall_mem_append.mpr ⟨lw_r1, List.forall_mem_append.mpr ⟨lw_r2, List.forall_mem_append.mpr ⟨lw_r3, lw_r4⟩⟩⟩

def RX0 : String := "MiserBridges$Doubled"
def TX0 : u_T := fun k => match k with
  | _ => ("", "", "", false)
def tyX0 : Nat → FieldType := fun k => match k with
  | _ => .int
theorem nmX0 : ∀ a, a < 0 → ∀ b, b < 0 → a ≠ b → (TX0 a).2.1 ≠ (TX0 b).2.1 := by decide +kernel
theorem tyX0_ok : ∀ k, k < 0 → parseFieldDescriptor (TX0 k).2.2.1 = some (tyX0 k) := by decide +kernel
abbrev cX0_init : ByteArray := prog_2_method_1_code
def yX0_init : MethodName := ⟨RX0, "<init>", "()V"⟩
abbrev cX0_loadBy : ByteArray := prog_2_method_2_code
def yX0_loadBy : MethodName := ⟨RX0, "loadBy", "(I)I"⟩
def RX1 : String := "MiserBridges$False"
def TX1 : u_T := fun k => match k with
  | _ => ("", "", "", false)
def tyX1 : Nat → FieldType := fun k => match k with
  | _ => .int
theorem nmX1 : ∀ a, a < 0 → ∀ b, b < 0 → a ≠ b → (TX1 a).2.1 ≠ (TX1 b).2.1 := by decide +kernel
theorem tyX1_ok : ∀ k, k < 0 → parseFieldDescriptor (TX1 k).2.2.1 = some (tyX1 k) := by decide +kernel
abbrev cX1_init : ByteArray := prog_3_method_1_code
def yX1_init : MethodName := ⟨RX1, "<init>", "()V"⟩
abbrev cX1_loadBy : ByteArray := prog_3_method_2_code
def yX1_loadBy : MethodName := ⟨RX1, "loadBy", "(I)I"⟩
def RX2 : String := "MiserBridges$Fort"
def TX2 : u_T := fun k => match k with
  | 0 => ("MiserBridges$Fort", "kinds", "[LMiserBridges$Plain;", true)
  | 1 => ("MiserBridges$Fort", "bridges", "I", false)
  | 2 => ("MiserBridges$Fort", "roomA", "[I", true)
  | 3 => ("MiserBridges$Fort", "roomB", "[I", true)
  | 4 => ("MiserBridges$Fort", "kind", "[I", true)
  | 5 => ("MiserBridges$Fort", "ballast", "[I", true)
  | 6 => ("MiserBridges$Fort", "lying", "I", false)
  | 7 => ("MiserBridges$Fort", "chains", "I", false)
  | 8 => ("MiserBridges$Fort", "chainA", "[I", true)
  | 9 => ("MiserBridges$Fort", "chainB", "[I", true)
  | 10 => ("MiserBridges$Fort", "rust", "[I", true)
  | 11 => ("MiserBridges$Fort", "people", "I", false)
  | 12 => ("MiserBridges$Fort", "pounds", "[I", true)
  | 13 => ("MiserBridges$Fort", "place", "[I", true)
  | _ => ("MiserBridges$Fort", "past", "LMiserBridges$Past;", true)
def tyX2 : Nat → FieldType := fun k => match k with
  | 0 => .array (.object "MiserBridges$Plain")
  | 1 => .int
  | 2 => .array .int
  | 3 => .array .int
  | 4 => .array .int
  | 5 => .array .int
  | 6 => .int
  | 7 => .int
  | 8 => .array .int
  | 9 => .array .int
  | 10 => .array .int
  | 11 => .int
  | 12 => .array .int
  | 13 => .array .int
  | _ => .object "MiserBridges$Past"
theorem nmX2 : ∀ a, a < 15 → ∀ b, b < 15 → a ≠ b → (TX2 a).2.1 ≠ (TX2 b).2.1 := by decide +kernel
theorem tyX2_ok : ∀ k, k < 15 → parseFieldDescriptor (TX2 k).2.2.1 = some (tyX2 k) := by decide +kernel
abbrev cX2_init : ByteArray := prog_4_method_1_code
def yX2_init : MethodName := ⟨RX2, "<init>", "()V"⟩
abbrev cX2_empty : ByteArray := prog_4_method_2_code
def yX2_empty : MethodName := ⟨RX2, "empty", "()V"⟩
abbrev cX2_take : ByteArray := prog_4_method_3_code
def yX2_take : MethodName := ⟨RX2, "take", "(LMiserBridges$Fort;)V"⟩
abbrev cX2_addBridge : ByteArray := prog_4_method_4_code
def yX2_addBridge : MethodName := ⟨RX2, "addBridge", "(IIIZ)I"⟩
abbrev cX2_addChain : ByteArray := prog_4_method_5_code
def yX2_addChain : MethodName := ⟨RX2, "addChain", "(III)I"⟩
abbrev cX2_setBallast : ByteArray := prog_4_method_6_code
def yX2_setBallast : MethodName := ⟨RX2, "setBallast", "(II)I"⟩
abbrev cX2_addPerson : ByteArray := prog_4_method_7_code
def yX2_addPerson : MethodName := ⟨RX2, "addPerson", "(II)I"⟩
abbrev cX2_isBridge : ByteArray := prog_4_method_8_code
def yX2_isBridge : MethodName := ⟨RX2, "isBridge", "(I)Z"⟩
abbrev cX2_isPerson : ByteArray := prog_4_method_9_code
def yX2_isPerson : MethodName := ⟨RX2, "isPerson", "(I)Z"⟩
abbrev cX2_isPlace : ByteArray := prog_4_method_10_code
def yX2_isPlace : MethodName := ⟨RX2, "isPlace", "(I)Z"⟩
abbrev cX2_areBridges : ByteArray := prog_4_method_11_code
def yX2_areBridges : MethodName := ⟨RX2, "areBridges", "(I)Z"⟩
abbrev cX2_areSome : ByteArray := prog_4_method_12_code
def yX2_areSome : MethodName := ⟨RX2, "areSome", "(I)Z"⟩
abbrev cX2_allBridges : ByteArray := prog_4_method_13_code
def yX2_allBridges : MethodName := ⟨RX2, "allBridges", "()I"⟩
abbrev cX2_bridgesOf : ByteArray := prog_4_method_14_code
def yX2_bridgesOf : MethodName := ⟨RX2, "bridgesOf", "(I)I"⟩
abbrev cX2_joins : ByteArray := prog_4_method_15_code
def yX2_joins : MethodName := ⟨RX2, "joins", "(II)Z"⟩
abbrev cX2_isDown : ByteArray := prog_4_method_16_code
def yX2_isDown : MethodName := ⟨RX2, "isDown", "(I)Z"⟩
abbrev cX2_isTied : ByteArray := prog_4_method_17_code
def yX2_isTied : MethodName := ⟨RX2, "isTied", "(I)Z"⟩
abbrev cX2_loadOn : ByteArray := prog_4_method_18_code
def yX2_loadOn : MethodName := ⟨RX2, "loadOn", "(I)I"⟩
abbrev cX2_areIn : ByteArray := prog_4_method_19_code
def yX2_areIn : MethodName := ⟨RX2, "areIn", "(II)Z"⟩
abbrev cX2_canGo : ByteArray := prog_4_method_20_code
def yX2_canGo : MethodName := ⟨RX2, "canGo", "(II)Z"⟩
abbrev cX2_go : ByteArray := prog_4_method_21_code
def yX2_go : MethodName := ⟨RX2, "go", "(II)V"⟩
abbrev cX2_tip : ByteArray := prog_4_method_22_code
def yX2_tip : MethodName := ⟨RX2, "tip", "(II)V"⟩
abbrev cX2_dropChain : ByteArray := prog_4_method_23_code
def yX2_dropChain : MethodName := ⟨RX2, "dropChain", "(I)V"⟩
abbrev cX2_addStones : ByteArray := prog_4_method_24_code
def yX2_addStones : MethodName := ⟨RX2, "addStones", "(II)V"⟩
abbrev cX2_leaveOut : ByteArray := prog_4_method_25_code
def yX2_leaveOut : MethodName := ⟨RX2, "leaveOut", "(I)V"⟩
abbrev cX2_leaveAlone : ByteArray := prog_4_method_26_code
def yX2_leaveAlone : MethodName := ⟨RX2, "leaveAlone", "(I)V"⟩
abbrev cX2_packed : ByteArray := prog_4_method_27_code
def yX2_packed : MethodName := ⟨RX2, "packed", "()I"⟩
abbrev cX2_unpack : ByteArray := prog_4_method_28_code
def yX2_unpack : MethodName := ⟨RX2, "unpack", "(I)V"⟩
abbrev cX2_digestOn : ByteArray := prog_4_method_29_code
def yX2_digestOn : MethodName := ⟨RX2, "digestOn", "(J)J"⟩
def RX3 : String := "MiserBridges$Greased"
def TX3 : u_T := fun k => match k with
  | _ => ("", "", "", false)
def tyX3 : Nat → FieldType := fun k => match k with
  | _ => .int
theorem nmX3 : ∀ a, a < 0 → ∀ b, b < 0 → a ≠ b → (TX3 a).2.1 ≠ (TX3 b).2.1 := by decide +kernel
theorem tyX3_ok : ∀ k, k < 0 → parseFieldDescriptor (TX3 k).2.2.1 = some (tyX3 k) := by decide +kernel
abbrev cX3_init : ByteArray := prog_5_method_1_code
def yX3_init : MethodName := ⟨RX3, "<init>", "()V"⟩
abbrev cX3_loadBy : ByteArray := prog_5_method_2_code
def yX3_loadBy : MethodName := ⟨RX3, "loadBy", "(I)I"⟩
def RX4 : String := "MiserBridges$Jammed"
def TX4 : u_T := fun k => match k with
  | _ => ("", "", "", false)
def tyX4 : Nat → FieldType := fun k => match k with
  | _ => .int
theorem nmX4 : ∀ a, a < 0 → ∀ b, b < 0 → a ≠ b → (TX4 a).2.1 ≠ (TX4 b).2.1 := by decide +kernel
theorem tyX4_ok : ∀ k, k < 0 → parseFieldDescriptor (TX4 k).2.2.1 = some (tyX4 k) := by decide +kernel
abbrev cX4_init : ByteArray := prog_6_method_1_code
def yX4_init : MethodName := ⟨RX4, "<init>", "()V"⟩
abbrev cX4_mayFall : ByteArray := prog_6_method_2_code
def yX4_mayFall : MethodName := ⟨RX4, "mayFall", "()Z"⟩
def RX5 : String := "MiserBridges$Latched"
def TX5 : u_T := fun k => match k with
  | _ => ("", "", "", false)
def tyX5 : Nat → FieldType := fun k => match k with
  | _ => .int
theorem nmX5 : ∀ a, a < 0 → ∀ b, b < 0 → a ≠ b → (TX5 a).2.1 ≠ (TX5 b).2.1 := by decide +kernel
theorem tyX5_ok : ∀ k, k < 0 → parseFieldDescriptor (TX5 k).2.2.1 = some (tyX5 k) := by decide +kernel
abbrev cX5_init : ByteArray := prog_7_method_1_code
def yX5_init : MethodName := ⟨RX5, "<init>", "()V"⟩
abbrev cX5_mayRise : ByteArray := prog_7_method_2_code
def yX5_mayRise : MethodName := ⟨RX5, "mayRise", "()Z"⟩
def RX6 : String := "MiserBridges$Past"
def TX6 : u_T := fun k => match k with
  | 0 => ("MiserBridges$Past", "states", "[I", true)
  | _ => ("MiserBridges$Past", "size", "I", false)
def tyX6 : Nat → FieldType := fun k => match k with
  | 0 => .array .int
  | _ => .int
theorem nmX6 : ∀ a, a < 2 → ∀ b, b < 2 → a ≠ b → (TX6 a).2.1 ≠ (TX6 b).2.1 := by decide +kernel
theorem tyX6_ok : ∀ k, k < 2 → parseFieldDescriptor (TX6 k).2.2.1 = some (tyX6 k) := by decide +kernel
abbrev cX6_init : ByteArray := prog_8_method_1_code
def yX6_init : MethodName := ⟨RX6, "<init>", "()V"⟩
abbrev cX6_push : ByteArray := prog_8_method_2_code
def yX6_push : MethodName := ⟨RX6, "push", "(I)V"⟩
abbrev cX6_pop : ByteArray := prog_8_method_3_code
def yX6_pop : MethodName := ⟨RX6, "pop", "()I"⟩
abbrev cX6_forget : ByteArray := prog_8_method_4_code
def yX6_forget : MethodName := ⟨RX6, "forget", "()V"⟩
abbrev cX6_take : ByteArray := prog_8_method_5_code
def yX6_take : MethodName := ⟨RX6, "take", "(LMiserBridges$Past;)V"⟩
def RX7 : String := "MiserBridges$Plain"
def TX7 : u_T := fun k => match k with
  | _ => ("", "", "", false)
def tyX7 : Nat → FieldType := fun k => match k with
  | _ => .int
theorem nmX7 : ∀ a, a < 0 → ∀ b, b < 0 → a ≠ b → (TX7 a).2.1 ≠ (TX7 b).2.1 := by decide +kernel
theorem tyX7_ok : ∀ k, k < 0 → parseFieldDescriptor (TX7 k).2.2.1 = some (tyX7 k) := by decide +kernel
abbrev cX7_init : ByteArray := prog_9_method_1_code
def yX7_init : MethodName := ⟨RX7, "<init>", "()V"⟩
abbrev cX7_loadBy : ByteArray := prog_9_method_2_code
def yX7_loadBy : MethodName := ⟨RX7, "loadBy", "(I)I"⟩
abbrev cX7_mayRise : ByteArray := prog_9_method_3_code
def yX7_mayRise : MethodName := ⟨RX7, "mayRise", "()Z"⟩
abbrev cX7_mayFall : ByteArray := prog_9_method_4_code
def yX7_mayFall : MethodName := ⟨RX7, "mayFall", "()Z"⟩
def RX8 : String := "MiserBridges$Reader"
def TX8 : u_T := fun k => match k with
  | 0 => ("MiserBridges$Reader", "numbers", "[I", true)
  | _ => ("MiserBridges$Reader", "item", "I", false)
def tyX8 : Nat → FieldType := fun k => match k with
  | 0 => .array .int
  | _ => .int
theorem nmX8 : ∀ a, a < 2 → ∀ b, b < 2 → a ≠ b → (TX8 a).2.1 ≠ (TX8 b).2.1 := by decide +kernel
theorem tyX8_ok : ∀ k, k < 2 → parseFieldDescriptor (TX8 k).2.2.1 = some (tyX8 k) := by decide +kernel
abbrev cX8_init : ByteArray := prog_10_method_1_code
def yX8_init : MethodName := ⟨RX8, "<init>", "()V"⟩
abbrev cX8_readInto : ByteArray := prog_10_method_2_code
def yX8_readInto : MethodName := ⟨RX8, "readInto", "(LMiserBridges$Fort;LMiserBridges$Text;)I"⟩
abbrev cX8_readItem : ByteArray := prog_10_method_3_code
def yX8_readItem : MethodName := ⟨RX8, "readItem", "(LMiserBridges$Text;)Z"⟩
abbrev cX8_tell : ByteArray := prog_10_method_4_code
def yX8_tell : MethodName := ⟨RX8, "tell", "(LMiserBridges$Fort;)I"⟩
def RX9 : String := "MiserBridges$Search"
def TX9 : u_T := fun k => match k with
  | 0 => ("MiserBridges$Search", "states", "[I", true)
  | 1 => ("MiserBridges$Search", "seen", "[J", true)
  | 2 => ("MiserBridges$Search", "found", "I", false)
  | 3 => ("MiserBridges$Search", "lyings", "I", false)
  | _ => ("MiserBridges$Search", "goal", "I", false)
def tyX9 : Nat → FieldType := fun k => match k with
  | 0 => .array .int
  | 1 => .array .long
  | 2 => .int
  | 3 => .int
  | _ => .int
theorem nmX9 : ∀ a, a < 5 → ∀ b, b < 5 → a ≠ b → (TX9 a).2.1 ≠ (TX9 b).2.1 := by decide +kernel
theorem tyX9_ok : ∀ k, k < 5 → parseFieldDescriptor (TX9 k).2.2.1 = some (tyX9 k) := by decide +kernel
abbrev cX9_init : ByteArray := prog_11_method_1_code
def yX9_init : MethodName := ⟨RX9, "<init>", "()V"⟩
abbrev cX9_shorter : ByteArray := prog_11_method_2_code
def yX9_shorter : MethodName := ⟨RX9, "shorter", "(LMiserBridges$Fort;III)I"⟩
abbrev cX9_begin : ByteArray := prog_11_method_3_code
def yX9_begin : MethodName := ⟨RX9, "begin", "(I)V"⟩
abbrev cX9_goOn : ByteArray := prog_11_method_4_code
def yX9_goOn : MethodName := ⟨RX9, "goOn", "(LMiserBridges$Fort;I)V"⟩
abbrev cX9_note : ByteArray := prog_11_method_5_code
def yX9_note : MethodName := ⟨RX9, "note", "(II)V"⟩
abbrev cX9_stateAt : ByteArray := prog_11_method_6_code
def yX9_stateAt : MethodName := ⟨RX9, "stateAt", "(I)I"⟩
abbrev cX9_before : ByteArray := prog_11_method_7_code
def yX9_before : MethodName := ⟨RX9, "before", "(I)I"⟩
abbrev cX9_stepOfWay : ByteArray := prog_11_method_8_code
def yX9_stepOfWay : MethodName := ⟨RX9, "stepOfWay", "(II)I"⟩
abbrev cX9_stepBetween : ByteArray := prog_11_method_9_code
def yX9_stepBetween : MethodName := ⟨RX9, "stepBetween", "(II)I"⟩
def RX10 : String := "MiserBridges$Text"
def TX10 : u_T := fun k => match k with
  | 0 => ("MiserBridges$Text", "bytes", "[I", true)
  | 1 => ("MiserBridges$Text", "length", "I", false)
  | 2 => ("MiserBridges$Text", "token", "I", false)
  | 3 => ("MiserBridges$Text", "start", "I", false)
  | 4 => ("MiserBridges$Text", "end", "I", false)
  | _ => ("MiserBridges$Text", "value", "I", false)
def tyX10 : Nat → FieldType := fun k => match k with
  | 0 => .array .int
  | 1 => .int
  | 2 => .int
  | 3 => .int
  | 4 => .int
  | _ => .int
theorem nmX10 : ∀ a, a < 6 → ∀ b, b < 6 → a ≠ b → (TX10 a).2.1 ≠ (TX10 b).2.1 := by decide +kernel
theorem tyX10_ok : ∀ k, k < 6 → parseFieldDescriptor (TX10 k).2.2.1 = some (tyX10 k) := by decide +kernel
abbrev cX10_init : ByteArray := prog_12_method_1_code
def yX10_init : MethodName := ⟨RX10, "<init>", "()V"⟩
abbrev cX10_append : ByteArray := prog_12_method_2_code
def yX10_append : MethodName := ⟨RX10, "append", "(JI)I"⟩
abbrev cX10_wipe : ByteArray := prog_12_method_3_code
def yX10_wipe : MethodName := ⟨RX10, "wipe", "()I"⟩
abbrev cX10_lookAtFirst : ByteArray := prog_12_method_4_code
def yX10_lookAtFirst : MethodName := ⟨RX10, "lookAtFirst", "()V"⟩
abbrev cX10_lookAtNext : ByteArray := prog_12_method_5_code
def yX10_lookAtNext : MethodName := ⟨RX10, "lookAtNext", "()V"⟩
abbrev cX10_takeWord : ByteArray := prog_12_method_6_code
def yX10_takeWord : MethodName := ⟨RX10, "takeWord", "()V"⟩
abbrev cX10_takeNumber : ByteArray := prog_12_method_7_code
def yX10_takeNumber : MethodName := ⟨RX10, "takeNumber", "()V"⟩
abbrev cX10_itemOfWord : ByteArray := prog_12_method_8_code
def yX10_itemOfWord : MethodName := ⟨RX10, "itemOfWord", "()I"⟩
abbrev cX10_isWord : ByteArray := prog_12_method_9_code
def yX10_isWord : MethodName := ⟨RX10, "isWord", "(Ljava/lang/String;)Z"⟩
abbrev cX10_isLetter : ByteArray := prog_12_method_10_code
def yX10_isLetter : MethodName := ⟨RX10, "isLetter", "(I)Z"⟩
abbrev cX10_isFigure : ByteArray := prog_12_method_11_code
def yX10_isFigure : MethodName := ⟨RX10, "isFigure", "(I)Z"⟩
def RX11 : String := "MiserBridges"
def TX11 : u_T := fun k => match k with
  | 0 => ("MiserBridges", "now", "LMiserBridges$Fort;", true)
  | 1 => ("MiserBridges", "trial", "LMiserBridges$Fort;", true)
  | 2 => ("MiserBridges", "images", "[LMiserBridges$Fort;", true)
  | 3 => ("MiserBridges", "kept", "[Z", true)
  | 4 => ("MiserBridges", "text", "LMiserBridges$Text;", true)
  | 5 => ("MiserBridges", "reader", "LMiserBridges$Reader;", true)
  | 6 => ("MiserBridges", "search", "LMiserBridges$Search;", true)
  | 7 => ("MiserBridges", "badCalls", "I", false)
  | 8 => ("MiserBridges", "noCalls", "I", false)
  | _ => ("MiserBridges", "fullCalls", "I", false)
def tyX11 : Nat → FieldType := fun k => match k with
  | 0 => .object "MiserBridges$Fort"
  | 1 => .object "MiserBridges$Fort"
  | 2 => .array (.object "MiserBridges$Fort")
  | 3 => .array .boolean
  | 4 => .object "MiserBridges$Text"
  | 5 => .object "MiserBridges$Reader"
  | 6 => .object "MiserBridges$Search"
  | 7 => .int
  | 8 => .int
  | _ => .int
theorem nmX11 : ∀ a, a < 10 → ∀ b, b < 10 → a ≠ b → (TX11 a).2.1 ≠ (TX11 b).2.1 := by decide +kernel
theorem tyX11_ok : ∀ k, k < 10 → parseFieldDescriptor (TX11 k).2.2.1 = some (tyX11 k) := by decide +kernel
abbrev cX11_init : ByteArray := prog_1_method_1_code
def yX11_init : MethodName := ⟨RX11, "<init>", "()V"⟩
abbrev cX11_bridge : ByteArray := prog_1_method_2_code
def yX11_bridge : MethodName := ⟨RX11, "bridge", "(IIIZ)I"⟩
abbrev cX11_chain : ByteArray := prog_1_method_3_code
def yX11_chain : MethodName := ⟨RX11, "chain", "(III)I"⟩
abbrev cX11_load : ByteArray := prog_1_method_4_code
def yX11_load : MethodName := ⟨RX11, "load", "(II)I"⟩
abbrev cX11_one : ByteArray := prog_1_method_5_code
def yX11_one : MethodName := ⟨RX11, "one", "(II)I"⟩
abbrev cX11_weight : ByteArray := prog_1_method_6_code
def yX11_weight : MethodName := ⟨RX11, "weight", "(I)I"⟩
abbrev cX11_where : ByteArray := prog_1_method_7_code
def yX11_where : MethodName := ⟨RX11, "where", "(I)I"⟩
abbrev cX11_lying : ByteArray := prog_1_method_8_code
def yX11_lying : MethodName := ⟨RX11, "lying", "()I"⟩
abbrev cX11_type : ByteArray := prog_1_method_9_code
def yX11_type : MethodName := ⟨RX11, "type", "(JI)I"⟩
abbrev cX11_clear : ByteArray := prog_1_method_10_code
def yX11_clear : MethodName := ⟨RX11, "clear", "()I"⟩
abbrev cX11_read : ByteArray := prog_1_method_11_code
def yX11_read : MethodName := ⟨RX11, "read", "()I"⟩
abbrev cX11_step : ByteArray := prog_1_method_12_code
def yX11_step : MethodName := ⟨RX11, "step", "(II)I"⟩
abbrev cX11_undo : ByteArray := prog_1_method_13_code
def yX11_undo : MethodName := ⟨RX11, "undo", "()I"⟩
abbrev cX11_way : ByteArray := prog_1_method_14_code
def yX11_way : MethodName := ⟨RX11, "way", "(III)I"⟩
abbrev cX11_reach : ByteArray := prog_1_method_15_code
def yX11_reach : MethodName := ⟨RX11, "reach", "(I)I"⟩
abbrev cX11_can : ByteArray := prog_1_method_16_code
def yX11_can : MethodName := ⟨RX11, "can", "(I)I"⟩
abbrev cX11_closed : ByteArray := prog_1_method_17_code
def yX11_closed : MethodName := ⟨RX11, "closed", "(I)I"⟩
abbrev cX11_child : ByteArray := prog_1_method_18_code
def yX11_child : MethodName := ⟨RX11, "child", "(I)I"⟩
abbrev cX11_cut : ByteArray := prog_1_method_19_code
def yX11_cut : MethodName := ⟨RX11, "cut", "(II)I"⟩
abbrev cX11_tie : ByteArray := prog_1_method_20_code
def yX11_tie : MethodName := ⟨RX11, "tie", "(II)I"⟩
abbrev cX11_stone : ByteArray := prog_1_method_21_code
def yX11_stone : MethodName := ⟨RX11, "stone", "(III)I"⟩
abbrev cX11_keep : ByteArray := prog_1_method_22_code
def yX11_keep : MethodName := ⟨RX11, "keep", "(III)I"⟩
abbrev cX11_wet : ByteArray := prog_1_method_23_code
def yX11_wet : MethodName := ⟨RX11, "wet", "(IIII)I"⟩
abbrev cX11_image : ByteArray := prog_1_method_24_code
def yX11_image : MethodName := ⟨RX11, "image", "(I)I"⟩
abbrev cX11_from : ByteArray := prog_1_method_25_code
def yX11_from : MethodName := ⟨RX11, "from", "(I)I"⟩
abbrev cX11_status : ByteArray := prog_1_method_26_code
def yX11_status : MethodName := ⟨RX11, "status", "(I)I"⟩
abbrev cX11_count : ByteArray := prog_1_method_27_code
def yX11_count : MethodName := ⟨RX11, "count", "(I)I"⟩
abbrev cX11_digest : ByteArray := prog_1_method_28_code
def yX11_digest : MethodName := ⟨RX11, "digest", "()J"⟩
abbrev cX11_counted : ByteArray := prog_1_method_29_code
def yX11_counted : MethodName := ⟨RX11, "counted", "(I)I"⟩
abbrev cX11_stepsNow : ByteArray := prog_1_method_30_code
def yX11_stepsNow : MethodName := ⟨RX11, "stepsNow", "(II)I"⟩
abbrev cX11_lyingsNow : ByteArray := prog_1_method_31_code
def yX11_lyingsNow : MethodName := ⟨RX11, "lyingsNow", "()I"⟩
abbrev cX11_isRoom : ByteArray := prog_1_method_32_code
def yX11_isRoom : MethodName := ⟨RX11, "isRoom", "(I)Z"⟩
abbrev cX11_isStone : ByteArray := prog_1_method_33_code
def yX11_isStone : MethodName := ⟨RX11, "isStone", "(I)Z"⟩
abbrev cX11_isImage : ByteArray := prog_1_method_34_code
def yX11_isImage : MethodName := ⟨RX11, "isImage", "(I)Z"⟩
abbrev cX11_isAmong : ByteArray := prog_1_method_35_code
def yX11_isAmong : MethodName := ⟨RX11, "isAmong", "(II)Z"⟩
abbrev cX11_downInAll : ByteArray := prog_1_method_36_code
def yX11_downInAll : MethodName := ⟨RX11, "downInAll", "(II)I"⟩
abbrev cX11_downInSome : ByteArray := prog_1_method_37_code
def yX11_downInSome : MethodName := ⟨RX11, "downInSome", "(I)I"⟩
abbrev cX11_rowsOf : ByteArray := prog_1_method_38_code
def yX11_rowsOf : MethodName := ⟨RX11, "rowsOf", "(LMiserBridges$Fort;IIII)I"⟩
def RX12 : String := "MiserBridgesModel"
def TX12 : u_T := fun k => match k with
  | 0 => ("MiserBridgesModel", "w", "[I", true)
  | 1 => ("MiserBridgesModel", "isKept", "[Z", true)
  | 2 => ("MiserBridgesModel", "text", "[I", true)
  | 3 => ("MiserBridgesModel", "texted", "I", false)
  | 4 => ("MiserBridgesModel", "refused", "[I", true)
  | 5 => ("MiserBridgesModel", "stones", "[I", true)
  | 6 => ("MiserBridgesModel", "ties", "I", false)
  | 7 => ("MiserBridgesModel", "ones", "[I", true)
  | 8 => ("MiserBridgesModel", "others", "[I", true)
  | 9 => ("MiserBridgesModel", "rusts", "[I", true)
  | 10 => ("MiserBridgesModel", "there", "I", false)
  | 11 => ("MiserBridgesModel", "place", "[I", true)
  | 12 => ("MiserBridgesModel", "lies", "I", false)
  | 13 => ("MiserBridgesModel", "itemWord", "[I", true)
  | 14 => ("MiserBridgesModel", "number", "[I", true)
  | 15 => ("MiserBridgesModel", "items", "I", false)
  | 16 => ("MiserBridgesModel", "at", "I", false)
  | 17 => ("MiserBridgesModel", "fault", "I", false)
  | 18 => ("MiserBridgesModel", "cameBy", "[I", true)
  | 19 => ("MiserBridgesModel", "order", "[I", true)
  | 20 => ("MiserBridgesModel", "ways", "I", false)
  | 21 => ("MiserBridgesModel", "rows", "[I", true)
  | 22 => ("MiserBridgesModel", "rowsThen", "[I", true)
  | _ => ("MiserBridgesModel", "h", "J", false)
def tyX12 : Nat → FieldType := fun k => match k with
  | 0 => .array .int
  | 1 => .array .boolean
  | 2 => .array .int
  | 3 => .int
  | 4 => .array .int
  | 5 => .array .int
  | 6 => .int
  | 7 => .array .int
  | 8 => .array .int
  | 9 => .array .int
  | 10 => .int
  | 11 => .array .int
  | 12 => .int
  | 13 => .array .int
  | 14 => .array .int
  | 15 => .int
  | 16 => .int
  | 17 => .int
  | 18 => .array .int
  | 19 => .array .int
  | 20 => .int
  | 21 => .array .int
  | 22 => .array .int
  | _ => .long
theorem nmX12 : ∀ a, a < 24 → ∀ b, b < 24 → a ≠ b → (TX12 a).2.1 ≠ (TX12 b).2.1 := by decide +kernel
theorem tyX12_ok : ∀ k, k < 24 → parseFieldDescriptor (TX12 k).2.2.1 = some (tyX12 k) := by decide +kernel
abbrev cX12_init : ByteArray := prog_14_method_1_code
def yX12_init : MethodName := ⟨RX12, "<init>", "()V"⟩
abbrev cX12_in : ByteArray := prog_14_method_3_code
def yX12_in : MethodName := ⟨RX12, "in", "(JJJ)Z"⟩
abbrev cX12_has : ByteArray := prog_14_method_4_code
def yX12_has : MethodName := ⟨RX12, "has", "(II)Z"⟩
abbrev cX12_ones : ByteArray := prog_14_method_5_code
def yX12_ones : MethodName := ⟨RX12, "ones", "(I)I"⟩
abbrev cX12_met : ByteArray := prog_14_method_6_code
def yX12_met : MethodName := ⟨RX12, "met", "(I)I"⟩
abbrev cX12_bad : ByteArray := prog_14_method_7_code
def yX12_bad : MethodName := ⟨RX12, "bad", "()I"⟩
abbrev cX12_copy : ByteArray := prog_14_method_8_code
def yX12_copy : MethodName := ⟨RX12, "copy", "(II)V"⟩
abbrev cX12_addBridge : ByteArray := prog_14_method_9_code
def yX12_addBridge : MethodName := ⟨RX12, "addBridge", "(IIIIZ)I"⟩
abbrev cX12_isBridge : ByteArray := prog_14_method_10_code
def yX12_isBridge : MethodName := ⟨RX12, "isBridge", "(II)Z"⟩
abbrev cX12_isTied : ByteArray := prog_14_method_11_code
def yX12_isTied : MethodName := ⟨RX12, "isTied", "(II)Z"⟩
abbrev cX12_addChain : ByteArray := prog_14_method_12_code
def yX12_addChain : MethodName := ⟨RX12, "addChain", "(IIII)I"⟩
abbrev cX12_setLoad : ByteArray := prog_14_method_13_code
def yX12_setLoad : MethodName := ⟨RX12, "setLoad", "(III)I"⟩
abbrev cX12_addOne : ByteArray := prog_14_method_14_code
def yX12_addOne : MethodName := ⟨RX12, "addOne", "(III)I"⟩
abbrev cX12_bridge : ByteArray := prog_14_method_15_code
def yX12_bridge : MethodName := ⟨RX12, "bridge", "(IIIZ)I"⟩
abbrev cX12_chain : ByteArray := prog_14_method_16_code
def yX12_chain : MethodName := ⟨RX12, "chain", "(III)I"⟩
abbrev cX12_load : ByteArray := prog_14_method_17_code
def yX12_load : MethodName := ⟨RX12, "load", "(II)I"⟩
abbrev cX12_one : ByteArray := prog_14_method_18_code
def yX12_one : MethodName := ⟨RX12, "one", "(II)I"⟩
abbrev cX12_layNow : ByteArray := prog_14_method_19_code
def yX12_layNow : MethodName := ⟨RX12, "layNow", "()V"⟩
abbrev cX12_tieMore : ByteArray := prog_14_method_20_code
def yX12_tieMore : MethodName := ⟨RX12, "tieMore", "(III)V"⟩
abbrev cX12_loadOf : ByteArray := prog_14_method_21_code
def yX12_loadOf : MethodName := ⟨RX12, "loadOf", "(I)I"⟩
abbrev cX12_tip : ByteArray := prog_14_method_22_code
def yX12_tip : MethodName := ⟨RX12, "tip", "(II)V"⟩
abbrev cX12_tipAll : ByteArray := prog_14_method_23_code
def yX12_tipAll : MethodName := ⟨RX12, "tipAll", "()V"⟩
abbrev cX12_isOf : ByteArray := prog_14_method_24_code
def yX12_isOf : MethodName := ⟨RX12, "isOf", "(II)Z"⟩
abbrev cX12_mayStep : ByteArray := prog_14_method_25_code
def yX12_mayStep : MethodName := ⟨RX12, "mayStep", "(II)Z"⟩
abbrev cX12_asNow : ByteArray := prog_14_method_26_code
def yX12_asNow : MethodName := ⟨RX12, "asNow", "()V"⟩
abbrev cX12_codeNow : ByteArray := prog_14_method_27_code
def yX12_codeNow : MethodName := ⟨RX12, "codeNow", "()I"⟩
abbrev cX12_decode : ByteArray := prog_14_method_28_code
def yX12_decode : MethodName := ⟨RX12, "decode", "(I)V"⟩
abbrev cX12_weight : ByteArray := prog_14_method_29_code
def yX12_weight : MethodName := ⟨RX12, "weight", "(I)I"⟩
abbrev cX12_isOne : ByteArray := prog_14_method_30_code
def yX12_isOne : MethodName := ⟨RX12, "isOne", "(I)Z"⟩
abbrev cX12_where : ByteArray := prog_14_method_31_code
def yX12_where : MethodName := ⟨RX12, "where", "(I)I"⟩
abbrev cX12_lying : ByteArray := prog_14_method_32_code
def yX12_lying : MethodName := ⟨RX12, "lying", "()I"⟩
abbrev cX12_type : ByteArray := prog_14_method_33_code
def yX12_type : MethodName := ⟨RX12, "type", "(JI)I"⟩
abbrev cX12_clear : ByteArray := prog_14_method_34_code
def yX12_clear : MethodName := ⟨RX12, "clear", "()I"⟩
abbrev cX12_isEnd : ByteArray := prog_14_method_35_code
def yX12_isEnd : MethodName := ⟨RX12, "isEnd", "()Z"⟩
abbrev cX12_wordOf : ByteArray := prog_14_method_36_code
def yX12_wordOf : MethodName := ⟨RX12, "wordOf", "(J)I"⟩
abbrev cX12_takeNumber : ByteArray := prog_14_method_37_code
def yX12_takeNumber : MethodName := ⟨RX12, "takeNumber", "()I"⟩
abbrev cX12_takeItem : ByteArray := prog_14_method_38_code
def yX12_takeItem : MethodName := ⟨RX12, "takeItem", "()V"⟩
abbrev cX12_tellItem : ByteArray := prog_14_method_39_code
def yX12_tellItem : MethodName := ⟨RX12, "tellItem", "(I)I"⟩
abbrev cX12_read : ByteArray := prog_14_method_40_code
def yX12_read : MethodName := ⟨RX12, "read", "()I"⟩
abbrev cX12_isPlace : ByteArray := prog_14_method_41_code
def yX12_isPlace : MethodName := ⟨RX12, "isPlace", "(I)Z"⟩
abbrev cX12_step : ByteArray := prog_14_method_42_code
def yX12_step : MethodName := ⟨RX12, "step", "(II)I"⟩
abbrev cX12_undo : ByteArray := prog_14_method_43_code
def yX12_undo : MethodName := ⟨RX12, "undo", "()I"⟩
abbrev cX12_goAll : ByteArray := prog_14_method_44_code
def yX12_goAll : MethodName := ⟨RX12, "goAll", "()V"⟩
abbrev cX12_findWay : ByteArray := prog_14_method_45_code
def yX12_findWay : MethodName := ⟨RX12, "findWay", "(II)I"⟩
abbrev cX12_stepsTo : ByteArray := prog_14_method_46_code
def yX12_stepsTo : MethodName := ⟨RX12, "stepsTo", "(I)I"⟩
abbrev cX12_stepsOf : ByteArray := prog_14_method_47_code
def yX12_stepsOf : MethodName := ⟨RX12, "stepsOf", "(II)I"⟩
abbrev cX12_areSome : ByteArray := prog_14_method_48_code
def yX12_areSome : MethodName := ⟨RX12, "areSome", "(I)Z"⟩
abbrev cX12_isRoom : ByteArray := prog_14_method_49_code
def yX12_isRoom : MethodName := ⟨RX12, "isRoom", "(I)Z"⟩
abbrev cX12_way : ByteArray := prog_14_method_50_code
def yX12_way : MethodName := ⟨RX12, "way", "(III)I"⟩
abbrev cX12_lyings : ByteArray := prog_14_method_51_code
def yX12_lyings : MethodName := ⟨RX12, "lyings", "()I"⟩
abbrev cX12_allLyings : ByteArray := prog_14_method_52_code
def yX12_allLyings : MethodName := ⟨RX12, "allLyings", "()I"⟩
abbrev cX12_many : ByteArray := prog_14_method_53_code
def yX12_many : MethodName := ⟨RX12, "many", "(I)I"⟩
abbrev cX12_reach : ByteArray := prog_14_method_54_code
def yX12_reach : MethodName := ⟨RX12, "reach", "(I)I"⟩
abbrev cX12_can : ByteArray := prog_14_method_55_code
def yX12_can : MethodName := ⟨RX12, "can", "(I)I"⟩
abbrev cX12_closed : ByteArray := prog_14_method_56_code
def yX12_closed : MethodName := ⟨RX12, "closed", "(I)I"⟩
abbrev cX12_child : ByteArray := prog_14_method_57_code
def yX12_child : MethodName := ⟨RX12, "child", "(I)I"⟩
abbrev cX12_cut : ByteArray := prog_14_method_58_code
def yX12_cut : MethodName := ⟨RX12, "cut", "(II)I"⟩
abbrev cX12_tie : ByteArray := prog_14_method_59_code
def yX12_tie : MethodName := ⟨RX12, "tie", "(II)I"⟩
abbrev cX12_stone : ByteArray := prog_14_method_60_code
def yX12_stone : MethodName := ⟨RX12, "stone", "(III)I"⟩
abbrev cX12_keep : ByteArray := prog_14_method_61_code
def yX12_keep : MethodName := ⟨RX12, "keep", "(III)I"⟩
abbrev cX12_wet : ByteArray := prog_14_method_62_code
def yX12_wet : MethodName := ⟨RX12, "wet", "(IIII)I"⟩
abbrev cX12_image : ByteArray := prog_14_method_63_code
def yX12_image : MethodName := ⟨RX12, "image", "(I)I"⟩
abbrev cX12_from : ByteArray := prog_14_method_64_code
def yX12_from : MethodName := ⟨RX12, "from", "(I)I"⟩
abbrev cX12_status : ByteArray := prog_14_method_65_code
def yX12_status : MethodName := ⟨RX12, "status", "(I)I"⟩
abbrev cX12_countOf : ByteArray := prog_14_method_66_code
def yX12_countOf : MethodName := ⟨RX12, "countOf", "(I)I"⟩
abbrev cX12_count : ByteArray := prog_14_method_67_code
def yX12_count : MethodName := ⟨RX12, "count", "(I)I"⟩
abbrev cX12_mix : ByteArray := prog_14_method_68_code
def yX12_mix : MethodName := ⟨RX12, "mix", "(J)V"⟩
abbrev cX12_digest : ByteArray := prog_14_method_69_code
def yX12_digest : MethodName := ⟨RX12, "digest", "()J"⟩
def RJx145de : String := "java/io/Serializable"
def RJx9f9b0 : String := "java/lang/CharSequence"
def RJxb160c : String := "java/lang/Comparable"
def RJ6 : String := "java/lang/Integer"
abbrev cJ6_bitCount_0f7a4 : ByteArray := prog_15_method_49_code
def yJ6_bitCount_0f7a4 : MethodName := ⟨RJ6, "bitCount", "(I)I"⟩
def RJ9 : String := "java/lang/Math"
abbrev cJ9_max_7cf53 : ByteArray := prog_16_method_65_code
def yJ9_max_7cf53 : MethodName := ⟨RJ9, "max", "(II)I"⟩
abbrev cJ9_min_7cf53 : ByteArray := prog_16_method_69_code
def yJ9_min_7cf53 : MethodName := ⟨RJ9, "min", "(II)I"⟩
def RJ0 : String := "java/lang/String"
abbrev cJ0_length_8abf5 : ByteArray := prog_17_method_54_code
def yJ0_length_8abf5 : MethodName := ⟨RJ0, "length", "()I"⟩
abbrev cJ0_charAt_5068e : ByteArray := prog_17_method_56_code
def yJ0_charAt_5068e : MethodName := ⟨RJ0, "charAt", "(I)C"⟩
abbrev cJ0_coder_7d493 : ByteArray := prog_17_method_152_code
def yJ0_coder_7d493 : MethodName := ⟨RJ0, "coder", "()B"⟩
abbrev cJ0_isLatin1_aae02 : ByteArray := prog_17_method_154_code
def yJ0_isLatin1_aae02 : MethodName := ⟨RJ0, "isLatin1", "()Z"⟩
abbrev cJ0_checkIndex_df160 : ByteArray := prog_17_method_155_code
def yJ0_checkIndex_df160 : MethodName := ⟨RJ0, "checkIndex", "(II)V"⟩
def RJ1 : String := "java/lang/StringLatin1"
abbrev cJ1_charAt_3b067 : ByteArray := prog_18_method_2_code
def yJ1_charAt_3b067 : MethodName := ⟨RJ1, "charAt", "([BI)C"⟩
def RJ2 : String := "java/lang/StringUTF16"
abbrev cJ2_getChar_3b067 : ByteArray := prog_19_method_5_code
def yJ2_getChar_3b067 : MethodName := ⟨RJ2, "getChar", "([BI)C"⟩
abbrev cJ2_length_9d52b : ByteArray := prog_19_method_6_code
def yJ2_length_9d52b : MethodName := ⟨RJ2, "length", "([B)I"⟩
abbrev cJ2_charAt_3b067 : ByteArray := prog_19_method_83_code
def yJ2_charAt_3b067 : MethodName := ⟨RJ2, "charAt", "([BI)C"⟩
abbrev cJ2_checkIndex_2214a : ByteArray := prog_19_method_91_code
def yJ2_checkIndex_2214a : MethodName := ⟨RJ2, "checkIndex", "(I[B)V"⟩
def RJ10 : String := "java/lang/System"
def RJxfd54e : String := "java/lang/constant/Constable"
def RJx3cf43 : String := "java/lang/constant/ConstantDesc"
def RJ7 : String := "java/util/Arrays"
abbrev cJ7_fill_d0a16 : ByteArray := prog_21_method_101_code
def yJ7_fill_d0a16 : MethodName := ⟨RJ7, "fill", "([JJ)V"⟩
def RJ3 : String := "jdk/internal/util/Preconditions"
abbrev cJ3_checkIndex_8e157 : ByteArray := prog_22_method_11_code
def yJ3_checkIndex_8e157 : MethodName := ⟨RJ3, "checkIndex", "(IILjava/util/function/BiFunction;)I"⟩
def RL : String := "MiserBridgesLaw"
abbrev cL_law : ByteArray := code
def yL_law : MethodName := ⟨RL, "law", "([I)Z"⟩
abbrev vwCl : List vw_C := [(RX0, TX0, 0), (RX1, TX1, 0), (RX2, TX2, 15), (RX3, TX3, 0), (RX4, TX4, 0), (RX5, TX5, 0), (RX6, TX6, 2), (RX7, TX7, 0), (RX8, TX8, 2), (RX9, TX9, 5), (RX10, TX10, 6), (RX11, TX11, 10), (RX12, TX12, 24)]
end
section
theorem dX0_init_0 : decode cX0_init 0 = .ok (.aload_n 0, 1) := by decide +kernel
theorem dX0_init_1 : decode cX0_init 1 = .ok (.invokespecial 1, 3) := by decide +kernel
theorem dX0_init_4 : decode cX0_init 4 = .ok (.return_, 1) := by decide +kernel
theorem dX0_loadBy_0 : decode cX0_loadBy 0 = .ok (.iconst 2, 1) := by decide +kernel
theorem dX0_loadBy_1 : decode cX0_loadBy 1 = .ok (.iload_n 1, 1) := by decide +kernel
theorem dX0_loadBy_2 : decode cX0_loadBy 2 = .ok (.imul, 1) := by decide +kernel
theorem dX0_loadBy_3 : decode cX0_loadBy 3 = .ok (.ireturn, 1) := by decide +kernel
theorem dX1_init_0 : decode cX1_init 0 = .ok (.aload_n 0, 1) := by decide +kernel
theorem dX1_init_1 : decode cX1_init 1 = .ok (.invokespecial 1, 3) := by decide +kernel
theorem dX1_init_4 : decode cX1_init 4 = .ok (.return_, 1) := by decide +kernel
theorem dX1_loadBy_0 : decode cX1_loadBy 0 = .ok (.iload_n 1, 1) := by decide +kernel
theorem dX1_loadBy_1 : decode cX1_loadBy 1 = .ok (.iconst 2, 1) := by decide +kernel
theorem dX1_loadBy_2 : decode cX1_loadBy 2 = .ok (.idiv, 1) := by decide +kernel
theorem dX1_loadBy_3 : decode cX1_loadBy 3 = .ok (.ireturn, 1) := by decide +kernel
theorem dX2_init_0 : decode cX2_init 0 = .ok (.aload_n 0, 1) := by decide +kernel
theorem dX2_init_1 : decode cX2_init 1 = .ok (.invokespecial 3, 3) := by decide +kernel
theorem dX2_init_4 : decode cX2_init 4 = .ok (.aload_n 0, 1) := by decide +kernel
theorem dX2_init_5 : decode cX2_init 5 = .ok (.bipush 6, 2) := by decide +kernel
theorem dX2_init_7 : decode cX2_init 7 = .ok (.anewarray 9, 3) := by decide +kernel
theorem dX2_init_10 : decode cX2_init 10 = .ok (.dup, 1) := by decide +kernel
theorem dX2_init_11 : decode cX2_init 11 = .ok (.iconst 0, 1) := by decide +kernel
theorem dX2_init_12 : decode cX2_init 12 = .ok (.new 9, 3) := by decide +kernel
theorem dX2_init_15 : decode cX2_init 15 = .ok (.dup, 1) := by decide +kernel
theorem dX2_init_16 : decode cX2_init 16 = .ok (.invokespecial 11, 3) := by decide +kernel
theorem dX2_init_19 : decode cX2_init 19 = .ok (.aastore, 1) := by decide +kernel
theorem dX2_init_20 : decode cX2_init 20 = .ok (.dup, 1) := by decide +kernel
theorem dX2_init_21 : decode cX2_init 21 = .ok (.iconst 1, 1) := by decide +kernel
theorem dX2_init_22 : decode cX2_init 22 = .ok (.new 12, 3) := by decide +kernel
theorem dX2_init_25 : decode cX2_init 25 = .ok (.dup, 1) := by decide +kernel
theorem dX2_init_26 : decode cX2_init 26 = .ok (.invokespecial 14, 3) := by decide +kernel
theorem dX2_init_29 : decode cX2_init 29 = .ok (.aastore, 1) := by decide +kernel
theorem dX2_init_30 : decode cX2_init 30 = .ok (.dup, 1) := by decide +kernel
theorem dX2_init_31 : decode cX2_init 31 = .ok (.iconst 2, 1) := by decide +kernel
theorem dX2_init_32 : decode cX2_init 32 = .ok (.new 15, 3) := by decide +kernel
theorem dX2_init_35 : decode cX2_init 35 = .ok (.dup, 1) := by decide +kernel
theorem dX2_init_36 : decode cX2_init 36 = .ok (.invokespecial 17, 3) := by decide +kernel
theorem dX2_init_39 : decode cX2_init 39 = .ok (.aastore, 1) := by decide +kernel
theorem dX2_init_40 : decode cX2_init 40 = .ok (.dup, 1) := by decide +kernel
theorem dX2_init_41 : decode cX2_init 41 = .ok (.iconst 3, 1) := by decide +kernel
theorem dX2_init_42 : decode cX2_init 42 = .ok (.new 18, 3) := by decide +kernel
theorem dX2_init_45 : decode cX2_init 45 = .ok (.dup, 1) := by decide +kernel
theorem dX2_init_46 : decode cX2_init 46 = .ok (.invokespecial 20, 3) := by decide +kernel
theorem dX2_init_49 : decode cX2_init 49 = .ok (.aastore, 1) := by decide +kernel
theorem dX2_init_50 : decode cX2_init 50 = .ok (.dup, 1) := by decide +kernel
theorem dX2_init_51 : decode cX2_init 51 = .ok (.iconst 4, 1) := by decide +kernel
theorem dX2_init_52 : decode cX2_init 52 = .ok (.new 21, 3) := by decide +kernel
theorem dX2_init_55 : decode cX2_init 55 = .ok (.dup, 1) := by decide +kernel
theorem dX2_init_56 : decode cX2_init 56 = .ok (.invokespecial 23, 3) := by decide +kernel
theorem dX2_init_59 : decode cX2_init 59 = .ok (.aastore, 1) := by decide +kernel
theorem dX2_init_60 : decode cX2_init 60 = .ok (.dup, 1) := by decide +kernel
theorem dX2_init_61 : decode cX2_init 61 = .ok (.iconst 5, 1) := by decide +kernel
theorem dX2_init_62 : decode cX2_init 62 = .ok (.new 24, 3) := by decide +kernel
theorem dX2_init_65 : decode cX2_init 65 = .ok (.dup, 1) := by decide +kernel
theorem dX2_init_66 : decode cX2_init 66 = .ok (.invokespecial 26, 3) := by decide +kernel
theorem dX2_init_69 : decode cX2_init 69 = .ok (.aastore, 1) := by decide +kernel
theorem dX2_init_70 : decode cX2_init 70 = .ok (.putfield 27, 3) := by decide +kernel
theorem dX2_init_73 : decode cX2_init 73 = .ok (.aload_n 0, 1) := by decide +kernel
theorem dX2_init_74 : decode cX2_init 74 = .ok (.iconst 5, 1) := by decide +kernel
theorem dX2_init_75 : decode cX2_init 75 = .ok (.newarray .int, 2) := by decide +kernel
theorem dX2_init_77 : decode cX2_init 77 = .ok (.putfield 33, 3) := by decide +kernel
theorem dX2_init_80 : decode cX2_init 80 = .ok (.aload_n 0, 1) := by decide +kernel
theorem dX2_init_81 : decode cX2_init 81 = .ok (.iconst 5, 1) := by decide +kernel
theorem dX2_init_82 : decode cX2_init 82 = .ok (.newarray .int, 2) := by decide +kernel
theorem dX2_init_84 : decode cX2_init 84 = .ok (.putfield 37, 3) := by decide +kernel
theorem dX2_init_87 : decode cX2_init 87 = .ok (.aload_n 0, 1) := by decide +kernel
theorem dX2_init_88 : decode cX2_init 88 = .ok (.iconst 5, 1) := by decide +kernel
theorem dX2_init_89 : decode cX2_init 89 = .ok (.newarray .int, 2) := by decide +kernel
theorem dX2_init_91 : decode cX2_init 91 = .ok (.putfield 40, 3) := by decide +kernel
theorem dX2_init_94 : decode cX2_init 94 = .ok (.aload_n 0, 1) := by decide +kernel
theorem dX2_init_95 : decode cX2_init 95 = .ok (.iconst 5, 1) := by decide +kernel
theorem dX2_init_96 : decode cX2_init 96 = .ok (.newarray .int, 2) := by decide +kernel
theorem dX2_init_98 : decode cX2_init 98 = .ok (.putfield 43, 3) := by decide +kernel
theorem dX2_init_101 : decode cX2_init 101 = .ok (.aload_n 0, 1) := by decide +kernel
theorem dX2_init_102 : decode cX2_init 102 = .ok (.iconst 2, 1) := by decide +kernel
theorem dX2_init_103 : decode cX2_init 103 = .ok (.newarray .int, 2) := by decide +kernel
theorem dX2_init_105 : decode cX2_init 105 = .ok (.putfield 46, 3) := by decide +kernel
theorem dX2_init_108 : decode cX2_init 108 = .ok (.aload_n 0, 1) := by decide +kernel
theorem dX2_init_109 : decode cX2_init 109 = .ok (.iconst 2, 1) := by decide +kernel
theorem dX2_init_110 : decode cX2_init 110 = .ok (.newarray .int, 2) := by decide +kernel
theorem dX2_init_112 : decode cX2_init 112 = .ok (.putfield 49, 3) := by decide +kernel
theorem dX2_init_115 : decode cX2_init 115 = .ok (.aload_n 0, 1) := by decide +kernel
theorem dX2_init_116 : decode cX2_init 116 = .ok (.iconst 2, 1) := by decide +kernel
theorem dX2_init_117 : decode cX2_init 117 = .ok (.newarray .int, 2) := by decide +kernel
theorem dX2_init_119 : decode cX2_init 119 = .ok (.putfield 52, 3) := by decide +kernel
theorem dX2_init_122 : decode cX2_init 122 = .ok (.aload_n 0, 1) := by decide +kernel
theorem dX2_init_123 : decode cX2_init 123 = .ok (.iconst 3, 1) := by decide +kernel
theorem dX2_init_124 : decode cX2_init 124 = .ok (.newarray .int, 2) := by decide +kernel
theorem dX2_init_126 : decode cX2_init 126 = .ok (.putfield 55, 3) := by decide +kernel
theorem dX2_init_129 : decode cX2_init 129 = .ok (.aload_n 0, 1) := by decide +kernel
theorem dX2_init_130 : decode cX2_init 130 = .ok (.iconst 3, 1) := by decide +kernel
theorem dX2_init_131 : decode cX2_init 131 = .ok (.newarray .int, 2) := by decide +kernel
theorem dX2_init_133 : decode cX2_init 133 = .ok (.putfield 58, 3) := by decide +kernel
theorem dX2_init_136 : decode cX2_init 136 = .ok (.aload_n 0, 1) := by decide +kernel
theorem dX2_init_137 : decode cX2_init 137 = .ok (.new 61, 3) := by decide +kernel
theorem dX2_init_140 : decode cX2_init 140 = .ok (.dup, 1) := by decide +kernel
theorem dX2_init_141 : decode cX2_init 141 = .ok (.invokespecial 63, 3) := by decide +kernel
theorem dX2_init_144 : decode cX2_init 144 = .ok (.putfield 64, 3) := by decide +kernel
theorem dX2_init_147 : decode cX2_init 147 = .ok (.return_, 1) := by decide +kernel
theorem dX2_empty_0 : decode cX2_empty 0 = .ok (.aload_n 0, 1) := by decide +kernel
theorem dX2_empty_1 : decode cX2_empty 1 = .ok (.iconst 0, 1) := by decide +kernel
theorem dX2_empty_2 : decode cX2_empty 2 = .ok (.putfield 68, 3) := by decide +kernel
theorem dX2_empty_5 : decode cX2_empty 5 = .ok (.aload_n 0, 1) := by decide +kernel
theorem dX2_empty_6 : decode cX2_empty 6 = .ok (.iconst 0, 1) := by decide +kernel
theorem dX2_empty_7 : decode cX2_empty 7 = .ok (.putfield 72, 3) := by decide +kernel
theorem dX2_empty_10 : decode cX2_empty 10 = .ok (.aload_n 0, 1) := by decide +kernel
theorem dX2_empty_11 : decode cX2_empty 11 = .ok (.iconst 0, 1) := by decide +kernel
theorem dX2_empty_12 : decode cX2_empty 12 = .ok (.putfield 75, 3) := by decide +kernel
theorem dX2_empty_15 : decode cX2_empty 15 = .ok (.aload_n 0, 1) := by decide +kernel
theorem dX2_empty_16 : decode cX2_empty 16 = .ok (.iconst 0, 1) := by decide +kernel
theorem dX2_empty_17 : decode cX2_empty 17 = .ok (.putfield 78, 3) := by decide +kernel
theorem dX2_empty_20 : decode cX2_empty 20 = .ok (.aload_n 0, 1) := by decide +kernel
theorem dX2_empty_21 : decode cX2_empty 21 = .ok (.getfield 64, 3) := by decide +kernel
theorem dX2_empty_24 : decode cX2_empty 24 = .ok (.invokevirtual 81, 3) := by decide +kernel
theorem dX2_empty_27 : decode cX2_empty 27 = .ok (.return_, 1) := by decide +kernel
theorem dX2_take_0 : decode cX2_take 0 = .ok (.aload_n 0, 1) := by decide +kernel
theorem dX2_take_1 : decode cX2_take 1 = .ok (.aload_n 1, 1) := by decide +kernel
theorem dX2_take_2 : decode cX2_take 2 = .ok (.getfield 68, 3) := by decide +kernel
theorem dX2_take_5 : decode cX2_take 5 = .ok (.putfield 68, 3) := by decide +kernel
theorem dX2_take_8 : decode cX2_take 8 = .ok (.aload_n 1, 1) := by decide +kernel
theorem dX2_take_9 : decode cX2_take 9 = .ok (.getfield 33, 3) := by decide +kernel
theorem dX2_take_12 : decode cX2_take 12 = .ok (.iconst 0, 1) := by decide +kernel
theorem dX2_take_13 : decode cX2_take 13 = .ok (.aload_n 0, 1) := by decide +kernel
theorem dX2_take_14 : decode cX2_take 14 = .ok (.getfield 33, 3) := by decide +kernel
theorem dX2_take_17 : decode cX2_take 17 = .ok (.iconst 0, 1) := by decide +kernel
theorem dX2_take_18 : decode cX2_take 18 = .ok (.iconst 5, 1) := by decide +kernel
theorem dX2_take_19 : decode cX2_take 19 = .ok (.invokestatic 84, 3) := by decide +kernel
theorem dX2_take_22 : decode cX2_take 22 = .ok (.aload_n 1, 1) := by decide +kernel
theorem dX2_take_23 : decode cX2_take 23 = .ok (.getfield 37, 3) := by decide +kernel
theorem dX2_take_26 : decode cX2_take 26 = .ok (.iconst 0, 1) := by decide +kernel
theorem dX2_take_27 : decode cX2_take 27 = .ok (.aload_n 0, 1) := by decide +kernel
theorem dX2_take_28 : decode cX2_take 28 = .ok (.getfield 37, 3) := by decide +kernel
theorem dX2_take_31 : decode cX2_take 31 = .ok (.iconst 0, 1) := by decide +kernel
theorem dX2_take_32 : decode cX2_take 32 = .ok (.iconst 5, 1) := by decide +kernel
theorem dX2_take_33 : decode cX2_take 33 = .ok (.invokestatic 84, 3) := by decide +kernel
theorem dX2_take_36 : decode cX2_take 36 = .ok (.aload_n 1, 1) := by decide +kernel
theorem dX2_take_37 : decode cX2_take 37 = .ok (.getfield 40, 3) := by decide +kernel
theorem dX2_take_40 : decode cX2_take 40 = .ok (.iconst 0, 1) := by decide +kernel
theorem dX2_take_41 : decode cX2_take 41 = .ok (.aload_n 0, 1) := by decide +kernel
theorem dX2_take_42 : decode cX2_take 42 = .ok (.getfield 40, 3) := by decide +kernel
theorem dX2_take_45 : decode cX2_take 45 = .ok (.iconst 0, 1) := by decide +kernel
theorem dX2_take_46 : decode cX2_take 46 = .ok (.iconst 5, 1) := by decide +kernel
theorem dX2_take_47 : decode cX2_take 47 = .ok (.invokestatic 84, 3) := by decide +kernel
theorem dX2_take_50 : decode cX2_take 50 = .ok (.aload_n 1, 1) := by decide +kernel
theorem dX2_take_51 : decode cX2_take 51 = .ok (.getfield 43, 3) := by decide +kernel
theorem dX2_take_54 : decode cX2_take 54 = .ok (.iconst 0, 1) := by decide +kernel
theorem dX2_take_55 : decode cX2_take 55 = .ok (.aload_n 0, 1) := by decide +kernel
theorem dX2_take_56 : decode cX2_take 56 = .ok (.getfield 43, 3) := by decide +kernel
theorem dX2_take_59 : decode cX2_take 59 = .ok (.iconst 0, 1) := by decide +kernel
theorem dX2_take_60 : decode cX2_take 60 = .ok (.iconst 5, 1) := by decide +kernel
theorem dX2_take_61 : decode cX2_take 61 = .ok (.invokestatic 84, 3) := by decide +kernel
theorem dX2_take_64 : decode cX2_take 64 = .ok (.aload_n 0, 1) := by decide +kernel
theorem dX2_take_65 : decode cX2_take 65 = .ok (.aload_n 1, 1) := by decide +kernel
theorem dX2_take_66 : decode cX2_take 66 = .ok (.getfield 72, 3) := by decide +kernel
theorem dX2_take_69 : decode cX2_take 69 = .ok (.putfield 72, 3) := by decide +kernel
theorem dX2_take_72 : decode cX2_take 72 = .ok (.aload_n 0, 1) := by decide +kernel
theorem dX2_take_73 : decode cX2_take 73 = .ok (.aload_n 1, 1) := by decide +kernel
theorem dX2_take_74 : decode cX2_take 74 = .ok (.getfield 75, 3) := by decide +kernel
theorem dX2_take_77 : decode cX2_take 77 = .ok (.putfield 75, 3) := by decide +kernel
theorem dX2_take_80 : decode cX2_take 80 = .ok (.aload_n 1, 1) := by decide +kernel
theorem dX2_take_81 : decode cX2_take 81 = .ok (.getfield 46, 3) := by decide +kernel
theorem dX2_take_84 : decode cX2_take 84 = .ok (.iconst 0, 1) := by decide +kernel
theorem dX2_take_85 : decode cX2_take 85 = .ok (.aload_n 0, 1) := by decide +kernel
theorem dX2_take_86 : decode cX2_take 86 = .ok (.getfield 46, 3) := by decide +kernel
theorem dX2_take_89 : decode cX2_take 89 = .ok (.iconst 0, 1) := by decide +kernel
theorem dX2_take_90 : decode cX2_take 90 = .ok (.iconst 2, 1) := by decide +kernel
theorem dX2_take_91 : decode cX2_take 91 = .ok (.invokestatic 84, 3) := by decide +kernel
theorem dX2_take_94 : decode cX2_take 94 = .ok (.aload_n 1, 1) := by decide +kernel
theorem dX2_take_95 : decode cX2_take 95 = .ok (.getfield 49, 3) := by decide +kernel
theorem dX2_take_98 : decode cX2_take 98 = .ok (.iconst 0, 1) := by decide +kernel
theorem dX2_take_99 : decode cX2_take 99 = .ok (.aload_n 0, 1) := by decide +kernel
theorem dX2_take_100 : decode cX2_take 100 = .ok (.getfield 49, 3) := by decide +kernel
theorem dX2_take_103 : decode cX2_take 103 = .ok (.iconst 0, 1) := by decide +kernel
theorem dX2_take_104 : decode cX2_take 104 = .ok (.iconst 2, 1) := by decide +kernel
theorem dX2_take_105 : decode cX2_take 105 = .ok (.invokestatic 84, 3) := by decide +kernel
theorem dX2_take_108 : decode cX2_take 108 = .ok (.aload_n 1, 1) := by decide +kernel
theorem dX2_take_109 : decode cX2_take 109 = .ok (.getfield 52, 3) := by decide +kernel
theorem dX2_take_112 : decode cX2_take 112 = .ok (.iconst 0, 1) := by decide +kernel
theorem dX2_take_113 : decode cX2_take 113 = .ok (.aload_n 0, 1) := by decide +kernel
theorem dX2_take_114 : decode cX2_take 114 = .ok (.getfield 52, 3) := by decide +kernel
theorem dX2_take_117 : decode cX2_take 117 = .ok (.iconst 0, 1) := by decide +kernel
theorem dX2_take_118 : decode cX2_take 118 = .ok (.iconst 2, 1) := by decide +kernel
theorem dX2_take_119 : decode cX2_take 119 = .ok (.invokestatic 84, 3) := by decide +kernel
theorem dX2_take_122 : decode cX2_take 122 = .ok (.aload_n 0, 1) := by decide +kernel
theorem dX2_take_123 : decode cX2_take 123 = .ok (.aload_n 1, 1) := by decide +kernel
theorem dX2_take_124 : decode cX2_take 124 = .ok (.getfield 78, 3) := by decide +kernel
theorem dX2_take_127 : decode cX2_take 127 = .ok (.putfield 78, 3) := by decide +kernel
theorem dX2_take_130 : decode cX2_take 130 = .ok (.aload_n 1, 1) := by decide +kernel
theorem dX2_take_131 : decode cX2_take 131 = .ok (.getfield 55, 3) := by decide +kernel
theorem dX2_take_134 : decode cX2_take 134 = .ok (.iconst 0, 1) := by decide +kernel
theorem dX2_take_135 : decode cX2_take 135 = .ok (.aload_n 0, 1) := by decide +kernel
theorem dX2_take_136 : decode cX2_take 136 = .ok (.getfield 55, 3) := by decide +kernel
theorem dX2_take_139 : decode cX2_take 139 = .ok (.iconst 0, 1) := by decide +kernel
theorem dX2_take_140 : decode cX2_take 140 = .ok (.iconst 3, 1) := by decide +kernel
theorem dX2_take_141 : decode cX2_take 141 = .ok (.invokestatic 84, 3) := by decide +kernel
theorem dX2_take_144 : decode cX2_take 144 = .ok (.aload_n 1, 1) := by decide +kernel
theorem dX2_take_145 : decode cX2_take 145 = .ok (.getfield 58, 3) := by decide +kernel
theorem dX2_take_148 : decode cX2_take 148 = .ok (.iconst 0, 1) := by decide +kernel
theorem dX2_take_149 : decode cX2_take 149 = .ok (.aload_n 0, 1) := by decide +kernel
theorem dX2_take_150 : decode cX2_take 150 = .ok (.getfield 58, 3) := by decide +kernel
theorem dX2_take_153 : decode cX2_take 153 = .ok (.iconst 0, 1) := by decide +kernel
theorem dX2_take_154 : decode cX2_take 154 = .ok (.iconst 3, 1) := by decide +kernel
theorem dX2_take_155 : decode cX2_take 155 = .ok (.invokestatic 84, 3) := by decide +kernel
theorem dX2_take_158 : decode cX2_take 158 = .ok (.aload_n 0, 1) := by decide +kernel
theorem dX2_take_159 : decode cX2_take 159 = .ok (.getfield 64, 3) := by decide +kernel
theorem dX2_take_162 : decode cX2_take 162 = .ok (.aload_n 1, 1) := by decide +kernel
theorem dX2_take_163 : decode cX2_take 163 = .ok (.getfield 64, 3) := by decide +kernel
theorem dX2_take_166 : decode cX2_take 166 = .ok (.invokevirtual 90, 3) := by decide +kernel
theorem dX2_take_169 : decode cX2_take 169 = .ok (.return_, 1) := by decide +kernel
theorem dX2_addBridge_0 : decode cX2_addBridge 0 = .ok (.iload_n 1, 1) := by decide +kernel
theorem dX2_addBridge_1 : decode cX2_addBridge 1 = .ok (.invokestatic 94, 3) := by decide +kernel
theorem dX2_addBridge_4 : decode cX2_addBridge 4 = .ok (.ifCond .eq 25, 3) := by decide +kernel
theorem dX2_addBridge_7 : decode cX2_addBridge 7 = .ok (.iload_n 2, 1) := by decide +kernel
theorem dX2_addBridge_8 : decode cX2_addBridge 8 = .ok (.invokestatic 94, 3) := by decide +kernel
theorem dX2_addBridge_11 : decode cX2_addBridge 11 = .ok (.ifCond .eq 18, 3) := by decide +kernel
theorem dX2_addBridge_14 : decode cX2_addBridge 14 = .ok (.iload_n 1, 1) := by decide +kernel
theorem dX2_addBridge_15 : decode cX2_addBridge 15 = .ok (.iload_n 2, 1) := by decide +kernel
theorem dX2_addBridge_16 : decode cX2_addBridge 16 = .ok (.if_icmp .eq 13, 3) := by decide +kernel
theorem dX2_addBridge_19 : decode cX2_addBridge 19 = .ok (.iload_n 3, 1) := by decide +kernel
theorem dX2_addBridge_20 : decode cX2_addBridge 20 = .ok (.ifCond .lt 9, 3) := by decide +kernel
theorem dX2_addBridge_23 : decode cX2_addBridge 23 = .ok (.iload_n 3, 1) := by decide +kernel
theorem dX2_addBridge_24 : decode cX2_addBridge 24 = .ok (.bipush 6, 2) := by decide +kernel
theorem dX2_addBridge_26 : decode cX2_addBridge 26 = .ok (.if_icmp .lt 6, 3) := by decide +kernel
theorem dX2_addBridge_29 : decode cX2_addBridge 29 = .ok (.bipush (-2), 2) := by decide +kernel
theorem dX2_addBridge_31 : decode cX2_addBridge 31 = .ok (.ireturn, 1) := by decide +kernel
theorem dX2_addBridge_32 : decode cX2_addBridge 32 = .ok (.aload_n 0, 1) := by decide +kernel
theorem dX2_addBridge_33 : decode cX2_addBridge 33 = .ok (.getfield 68, 3) := by decide +kernel
theorem dX2_addBridge_36 : decode cX2_addBridge 36 = .ok (.iconst 5, 1) := by decide +kernel
theorem dX2_addBridge_37 : decode cX2_addBridge 37 = .ok (.if_icmp .ne 6, 3) := by decide +kernel
theorem dX2_addBridge_40 : decode cX2_addBridge 40 = .ok (.bipush (-4), 2) := by decide +kernel
theorem dX2_addBridge_42 : decode cX2_addBridge 42 = .ok (.ireturn, 1) := by decide +kernel
theorem dX2_addBridge_43 : decode cX2_addBridge 43 = .ok (.aload_n 0, 1) := by decide +kernel
theorem dX2_addBridge_44 : decode cX2_addBridge 44 = .ok (.getfield 33, 3) := by decide +kernel
theorem dX2_addBridge_47 : decode cX2_addBridge 47 = .ok (.aload_n 0, 1) := by decide +kernel
theorem dX2_addBridge_48 : decode cX2_addBridge 48 = .ok (.getfield 68, 3) := by decide +kernel
theorem dX2_addBridge_51 : decode cX2_addBridge 51 = .ok (.iload_n 1, 1) := by decide +kernel
theorem dX2_addBridge_52 : decode cX2_addBridge 52 = .ok (.iastore, 1) := by decide +kernel
theorem dX2_addBridge_53 : decode cX2_addBridge 53 = .ok (.aload_n 0, 1) := by decide +kernel
theorem dX2_addBridge_54 : decode cX2_addBridge 54 = .ok (.getfield 37, 3) := by decide +kernel
theorem dX2_addBridge_57 : decode cX2_addBridge 57 = .ok (.aload_n 0, 1) := by decide +kernel
theorem dX2_addBridge_58 : decode cX2_addBridge 58 = .ok (.getfield 68, 3) := by decide +kernel
theorem dX2_addBridge_61 : decode cX2_addBridge 61 = .ok (.iload_n 2, 1) := by decide +kernel
theorem dX2_addBridge_62 : decode cX2_addBridge 62 = .ok (.iastore, 1) := by decide +kernel
theorem dX2_addBridge_63 : decode cX2_addBridge 63 = .ok (.aload_n 0, 1) := by decide +kernel
theorem dX2_addBridge_64 : decode cX2_addBridge 64 = .ok (.getfield 40, 3) := by decide +kernel
theorem dX2_addBridge_67 : decode cX2_addBridge 67 = .ok (.aload_n 0, 1) := by decide +kernel
theorem dX2_addBridge_68 : decode cX2_addBridge 68 = .ok (.getfield 68, 3) := by decide +kernel
theorem dX2_addBridge_71 : decode cX2_addBridge 71 = .ok (.iload_n 3, 1) := by decide +kernel
theorem dX2_addBridge_72 : decode cX2_addBridge 72 = .ok (.iastore, 1) := by decide +kernel
theorem dX2_addBridge_73 : decode cX2_addBridge 73 = .ok (.aload_n 0, 1) := by decide +kernel
theorem dX2_addBridge_74 : decode cX2_addBridge 74 = .ok (.getfield 43, 3) := by decide +kernel
theorem dX2_addBridge_77 : decode cX2_addBridge 77 = .ok (.aload_n 0, 1) := by decide +kernel
theorem dX2_addBridge_78 : decode cX2_addBridge 78 = .ok (.getfield 68, 3) := by decide +kernel
theorem dX2_addBridge_81 : decode cX2_addBridge 81 = .ok (.iconst 0, 1) := by decide +kernel
theorem dX2_addBridge_82 : decode cX2_addBridge 82 = .ok (.iastore, 1) := by decide +kernel
theorem dX2_addBridge_83 : decode cX2_addBridge 83 = .ok (.iload 4, 2) := by decide +kernel
theorem dX2_addBridge_85 : decode cX2_addBridge 85 = .ok (.ifCond .eq 18, 3) := by decide +kernel
theorem dX2_addBridge_88 : decode cX2_addBridge 88 = .ok (.aload_n 0, 1) := by decide +kernel
theorem dX2_addBridge_89 : decode cX2_addBridge 89 = .ok (.dup, 1) := by decide +kernel
theorem dX2_addBridge_90 : decode cX2_addBridge 90 = .ok (.getfield 72, 3) := by decide +kernel
theorem dX2_addBridge_93 : decode cX2_addBridge 93 = .ok (.iconst 1, 1) := by decide +kernel
theorem dX2_addBridge_94 : decode cX2_addBridge 94 = .ok (.aload_n 0, 1) := by decide +kernel
theorem dX2_addBridge_95 : decode cX2_addBridge 95 = .ok (.getfield 68, 3) := by decide +kernel
theorem dX2_addBridge_98 : decode cX2_addBridge 98 = .ok (.ishl, 1) := by decide +kernel
theorem dX2_addBridge_99 : decode cX2_addBridge 99 = .ok (.ior, 1) := by decide +kernel
theorem dX2_addBridge_100 : decode cX2_addBridge 100 = .ok (.putfield 72, 3) := by decide +kernel
theorem dX2_addBridge_103 : decode cX2_addBridge 103 = .ok (.aload_n 0, 1) := by decide +kernel
theorem dX2_addBridge_104 : decode cX2_addBridge 104 = .ok (.getfield 64, 3) := by decide +kernel
theorem dX2_addBridge_107 : decode cX2_addBridge 107 = .ok (.invokevirtual 81, 3) := by decide +kernel
theorem dX2_addBridge_110 : decode cX2_addBridge 110 = .ok (.aload_n 0, 1) := by decide +kernel
theorem dX2_addBridge_111 : decode cX2_addBridge 111 = .ok (.dup, 1) := by decide +kernel
theorem dX2_addBridge_112 : decode cX2_addBridge 112 = .ok (.getfield 68, 3) := by decide +kernel
theorem dX2_addBridge_115 : decode cX2_addBridge 115 = .ok (.dup_x1, 1) := by decide +kernel
theorem dX2_addBridge_116 : decode cX2_addBridge 116 = .ok (.iconst 1, 1) := by decide +kernel
theorem dX2_addBridge_117 : decode cX2_addBridge 117 = .ok (.iadd, 1) := by decide +kernel
theorem dX2_addBridge_118 : decode cX2_addBridge 118 = .ok (.putfield 68, 3) := by decide +kernel
theorem dX2_addBridge_121 : decode cX2_addBridge 121 = .ok (.ireturn, 1) := by decide +kernel
theorem dX2_addChain_0 : decode cX2_addChain 0 = .ok (.aload_n 0, 1) := by decide +kernel
theorem dX2_addChain_1 : decode cX2_addChain 1 = .ok (.iload_n 1, 1) := by decide +kernel
theorem dX2_addChain_2 : decode cX2_addChain 2 = .ok (.invokevirtual 98, 3) := by decide +kernel
theorem dX2_addChain_5 : decode cX2_addChain 5 = .ok (.ifCond .eq 26, 3) := by decide +kernel
theorem dX2_addChain_8 : decode cX2_addChain 8 = .ok (.aload_n 0, 1) := by decide +kernel
theorem dX2_addChain_9 : decode cX2_addChain 9 = .ok (.iload_n 2, 1) := by decide +kernel
theorem dX2_addChain_10 : decode cX2_addChain 10 = .ok (.invokevirtual 98, 3) := by decide +kernel
theorem dX2_addChain_13 : decode cX2_addChain 13 = .ok (.ifCond .eq 18, 3) := by decide +kernel
theorem dX2_addChain_16 : decode cX2_addChain 16 = .ok (.iload_n 1, 1) := by decide +kernel
theorem dX2_addChain_17 : decode cX2_addChain 17 = .ok (.iload_n 2, 1) := by decide +kernel
theorem dX2_addChain_18 : decode cX2_addChain 18 = .ok (.if_icmp .eq 13, 3) := by decide +kernel
theorem dX2_addChain_21 : decode cX2_addChain 21 = .ok (.iload_n 3, 1) := by decide +kernel
theorem dX2_addChain_22 : decode cX2_addChain 22 = .ok (.ifCond .lt 9, 3) := by decide +kernel
theorem dX2_addChain_25 : decode cX2_addChain 25 = .ok (.iload_n 3, 1) := by decide +kernel
theorem dX2_addChain_26 : decode cX2_addChain 26 = .ok (.bipush 9, 2) := by decide +kernel
theorem dX2_addChain_28 : decode cX2_addChain 28 = .ok (.if_icmp .le 6, 3) := by decide +kernel
theorem dX2_addChain_31 : decode cX2_addChain 31 = .ok (.bipush (-2), 2) := by decide +kernel
theorem dX2_addChain_33 : decode cX2_addChain 33 = .ok (.ireturn, 1) := by decide +kernel
theorem dX2_addChain_34 : decode cX2_addChain 34 = .ok (.aload_n 0, 1) := by decide +kernel
theorem dX2_addChain_35 : decode cX2_addChain 35 = .ok (.iload_n 1, 1) := by decide +kernel
theorem dX2_addChain_36 : decode cX2_addChain 36 = .ok (.invokevirtual 101, 3) := by decide +kernel
theorem dX2_addChain_39 : decode cX2_addChain 39 = .ok (.ifCond .ne 11, 3) := by decide +kernel
theorem dX2_addChain_42 : decode cX2_addChain 42 = .ok (.aload_n 0, 1) := by decide +kernel
theorem dX2_addChain_43 : decode cX2_addChain 43 = .ok (.iload_n 2, 1) := by decide +kernel
theorem dX2_addChain_44 : decode cX2_addChain 44 = .ok (.invokevirtual 101, 3) := by decide +kernel
theorem dX2_addChain_47 : decode cX2_addChain 47 = .ok (.ifCond .eq 6, 3) := by decide +kernel
theorem dX2_addChain_50 : decode cX2_addChain 50 = .ok (.bipush (-3), 2) := by decide +kernel
theorem dX2_addChain_52 : decode cX2_addChain 52 = .ok (.ireturn, 1) := by decide +kernel
theorem dX2_addChain_53 : decode cX2_addChain 53 = .ok (.aload_n 0, 1) := by decide +kernel
theorem dX2_addChain_54 : decode cX2_addChain 54 = .ok (.getfield 75, 3) := by decide +kernel
theorem dX2_addChain_57 : decode cX2_addChain 57 = .ok (.iconst 2, 1) := by decide +kernel
theorem dX2_addChain_58 : decode cX2_addChain 58 = .ok (.if_icmp .ne 6, 3) := by decide +kernel
theorem dX2_addChain_61 : decode cX2_addChain 61 = .ok (.bipush (-4), 2) := by decide +kernel
theorem dX2_addChain_63 : decode cX2_addChain 63 = .ok (.ireturn, 1) := by decide +kernel
theorem dX2_addChain_64 : decode cX2_addChain 64 = .ok (.aload_n 0, 1) := by decide +kernel
theorem dX2_addChain_65 : decode cX2_addChain 65 = .ok (.getfield 46, 3) := by decide +kernel
theorem dX2_addChain_68 : decode cX2_addChain 68 = .ok (.aload_n 0, 1) := by decide +kernel
theorem dX2_addChain_69 : decode cX2_addChain 69 = .ok (.getfield 75, 3) := by decide +kernel
theorem dX2_addChain_72 : decode cX2_addChain 72 = .ok (.iload_n 1, 1) := by decide +kernel
theorem dX2_addChain_73 : decode cX2_addChain 73 = .ok (.iastore, 1) := by decide +kernel
theorem dX2_addChain_74 : decode cX2_addChain 74 = .ok (.aload_n 0, 1) := by decide +kernel
theorem dX2_addChain_75 : decode cX2_addChain 75 = .ok (.getfield 49, 3) := by decide +kernel
theorem dX2_addChain_78 : decode cX2_addChain 78 = .ok (.aload_n 0, 1) := by decide +kernel
theorem dX2_addChain_79 : decode cX2_addChain 79 = .ok (.getfield 75, 3) := by decide +kernel
theorem dX2_addChain_82 : decode cX2_addChain 82 = .ok (.iload_n 2, 1) := by decide +kernel
theorem dX2_addChain_83 : decode cX2_addChain 83 = .ok (.iastore, 1) := by decide +kernel
theorem dX2_addChain_84 : decode cX2_addChain 84 = .ok (.aload_n 0, 1) := by decide +kernel
theorem dX2_addChain_85 : decode cX2_addChain 85 = .ok (.getfield 52, 3) := by decide +kernel
theorem dX2_addChain_88 : decode cX2_addChain 88 = .ok (.aload_n 0, 1) := by decide +kernel
theorem dX2_addChain_89 : decode cX2_addChain 89 = .ok (.getfield 75, 3) := by decide +kernel
theorem dX2_addChain_92 : decode cX2_addChain 92 = .ok (.iload_n 3, 1) := by decide +kernel
theorem dX2_addChain_93 : decode cX2_addChain 93 = .ok (.iastore, 1) := by decide +kernel
theorem dX2_addChain_94 : decode cX2_addChain 94 = .ok (.aload_n 0, 1) := by decide +kernel
theorem dX2_addChain_95 : decode cX2_addChain 95 = .ok (.getfield 64, 3) := by decide +kernel
theorem dX2_addChain_98 : decode cX2_addChain 98 = .ok (.invokevirtual 81, 3) := by decide +kernel
theorem dX2_addChain_101 : decode cX2_addChain 101 = .ok (.aload_n 0, 1) := by decide +kernel
theorem dX2_addChain_102 : decode cX2_addChain 102 = .ok (.dup, 1) := by decide +kernel
theorem dX2_addChain_103 : decode cX2_addChain 103 = .ok (.getfield 75, 3) := by decide +kernel
theorem dX2_addChain_106 : decode cX2_addChain 106 = .ok (.dup_x1, 1) := by decide +kernel
theorem dX2_addChain_107 : decode cX2_addChain 107 = .ok (.iconst 1, 1) := by decide +kernel
theorem dX2_addChain_108 : decode cX2_addChain 108 = .ok (.iadd, 1) := by decide +kernel
theorem dX2_addChain_109 : decode cX2_addChain 109 = .ok (.putfield 75, 3) := by decide +kernel
theorem dX2_addChain_112 : decode cX2_addChain 112 = .ok (.ireturn, 1) := by decide +kernel
theorem dX2_setBallast_0 : decode cX2_setBallast 0 = .ok (.aload_n 0, 1) := by decide +kernel
theorem dX2_setBallast_1 : decode cX2_setBallast 1 = .ok (.iload_n 1, 1) := by decide +kernel
theorem dX2_setBallast_2 : decode cX2_setBallast 2 = .ok (.invokevirtual 98, 3) := by decide +kernel
theorem dX2_setBallast_5 : decode cX2_setBallast 5 = .ok (.ifCond .eq 13, 3) := by decide +kernel
theorem dX2_setBallast_8 : decode cX2_setBallast 8 = .ok (.iload_n 2, 1) := by decide +kernel
theorem dX2_setBallast_9 : decode cX2_setBallast 9 = .ok (.ifCond .lt 9, 3) := by decide +kernel
theorem dX2_setBallast_12 : decode cX2_setBallast 12 = .ok (.iload_n 2, 1) := by decide +kernel
theorem dX2_setBallast_13 : decode cX2_setBallast 13 = .ok (.bipush 20, 2) := by decide +kernel
theorem dX2_setBallast_15 : decode cX2_setBallast 15 = .ok (.if_icmp .le 6, 3) := by decide +kernel
theorem dX2_setBallast_18 : decode cX2_setBallast 18 = .ok (.bipush (-2), 2) := by decide +kernel
theorem dX2_setBallast_20 : decode cX2_setBallast 20 = .ok (.ireturn, 1) := by decide +kernel
theorem dX2_setBallast_21 : decode cX2_setBallast 21 = .ok (.aload_n 0, 1) := by decide +kernel
theorem dX2_setBallast_22 : decode cX2_setBallast 22 = .ok (.getfield 43, 3) := by decide +kernel
theorem dX2_setBallast_25 : decode cX2_setBallast 25 = .ok (.iload_n 1, 1) := by decide +kernel
theorem dX2_setBallast_26 : decode cX2_setBallast 26 = .ok (.iaload, 1) := by decide +kernel
theorem dX2_setBallast_27 : decode cX2_setBallast 27 = .ok (.istore_n 3, 1) := by decide +kernel
theorem dX2_setBallast_28 : decode cX2_setBallast 28 = .ok (.aload_n 0, 1) := by decide +kernel
theorem dX2_setBallast_29 : decode cX2_setBallast 29 = .ok (.getfield 43, 3) := by decide +kernel
theorem dX2_setBallast_32 : decode cX2_setBallast 32 = .ok (.iload_n 1, 1) := by decide +kernel
theorem dX2_setBallast_33 : decode cX2_setBallast 33 = .ok (.iload_n 2, 1) := by decide +kernel
theorem dX2_setBallast_34 : decode cX2_setBallast 34 = .ok (.iastore, 1) := by decide +kernel
theorem dX2_setBallast_35 : decode cX2_setBallast 35 = .ok (.iload_n 3, 1) := by decide +kernel
theorem dX2_setBallast_36 : decode cX2_setBallast 36 = .ok (.ireturn, 1) := by decide +kernel
theorem dX2_addPerson_0 : decode cX2_addPerson 0 = .ok (.iload_n 1, 1) := by decide +kernel
theorem dX2_addPerson_1 : decode cX2_addPerson 1 = .ok (.iconst 1, 1) := by decide +kernel
theorem dX2_addPerson_2 : decode cX2_addPerson 2 = .ok (.if_icmp .lt 16, 3) := by decide +kernel
theorem dX2_addPerson_5 : decode cX2_addPerson 5 = .ok (.iload_n 1, 1) := by decide +kernel
theorem dX2_addPerson_6 : decode cX2_addPerson 6 = .ok (.bipush 9, 2) := by decide +kernel
theorem dX2_addPerson_8 : decode cX2_addPerson 8 = .ok (.if_icmp .gt 10, 3) := by decide +kernel
theorem dX2_addPerson_11 : decode cX2_addPerson 11 = .ok (.iload_n 2, 1) := by decide +kernel
theorem dX2_addPerson_12 : decode cX2_addPerson 12 = .ok (.invokestatic 94, 3) := by decide +kernel
theorem dX2_addPerson_15 : decode cX2_addPerson 15 = .ok (.ifCond .ne 6, 3) := by decide +kernel
theorem dX2_addPerson_18 : decode cX2_addPerson 18 = .ok (.bipush (-2), 2) := by decide +kernel
theorem dX2_addPerson_20 : decode cX2_addPerson 20 = .ok (.ireturn, 1) := by decide +kernel
theorem dX2_addPerson_21 : decode cX2_addPerson 21 = .ok (.aload_n 0, 1) := by decide +kernel
theorem dX2_addPerson_22 : decode cX2_addPerson 22 = .ok (.getfield 78, 3) := by decide +kernel
theorem dX2_addPerson_25 : decode cX2_addPerson 25 = .ok (.iconst 3, 1) := by decide +kernel
theorem dX2_addPerson_26 : decode cX2_addPerson 26 = .ok (.if_icmp .ne 6, 3) := by decide +kernel
theorem dX2_addPerson_29 : decode cX2_addPerson 29 = .ok (.bipush (-4), 2) := by decide +kernel
theorem dX2_addPerson_31 : decode cX2_addPerson 31 = .ok (.ireturn, 1) := by decide +kernel
theorem dX2_addPerson_32 : decode cX2_addPerson 32 = .ok (.aload_n 0, 1) := by decide +kernel
theorem dX2_addPerson_33 : decode cX2_addPerson 33 = .ok (.getfield 55, 3) := by decide +kernel
theorem dX2_addPerson_36 : decode cX2_addPerson 36 = .ok (.aload_n 0, 1) := by decide +kernel
theorem dX2_addPerson_37 : decode cX2_addPerson 37 = .ok (.getfield 78, 3) := by decide +kernel
theorem dX2_addPerson_40 : decode cX2_addPerson 40 = .ok (.iload_n 1, 1) := by decide +kernel
theorem dX2_addPerson_41 : decode cX2_addPerson 41 = .ok (.iastore, 1) := by decide +kernel
theorem dX2_addPerson_42 : decode cX2_addPerson 42 = .ok (.aload_n 0, 1) := by decide +kernel
theorem dX2_addPerson_43 : decode cX2_addPerson 43 = .ok (.getfield 58, 3) := by decide +kernel
theorem dX2_addPerson_46 : decode cX2_addPerson 46 = .ok (.aload_n 0, 1) := by decide +kernel
theorem dX2_addPerson_47 : decode cX2_addPerson 47 = .ok (.getfield 78, 3) := by decide +kernel
theorem dX2_addPerson_50 : decode cX2_addPerson 50 = .ok (.iload_n 2, 1) := by decide +kernel
theorem dX2_addPerson_51 : decode cX2_addPerson 51 = .ok (.iastore, 1) := by decide +kernel
theorem dX2_addPerson_52 : decode cX2_addPerson 52 = .ok (.aload_n 0, 1) := by decide +kernel
theorem dX2_addPerson_53 : decode cX2_addPerson 53 = .ok (.getfield 64, 3) := by decide +kernel
theorem dX2_addPerson_56 : decode cX2_addPerson 56 = .ok (.invokevirtual 81, 3) := by decide +kernel
theorem dX2_addPerson_59 : decode cX2_addPerson 59 = .ok (.aload_n 0, 1) := by decide +kernel
theorem dX2_addPerson_60 : decode cX2_addPerson 60 = .ok (.dup, 1) := by decide +kernel
theorem dX2_addPerson_61 : decode cX2_addPerson 61 = .ok (.getfield 78, 3) := by decide +kernel
theorem dX2_addPerson_64 : decode cX2_addPerson 64 = .ok (.dup_x1, 1) := by decide +kernel
theorem dX2_addPerson_65 : decode cX2_addPerson 65 = .ok (.iconst 1, 1) := by decide +kernel
theorem dX2_addPerson_66 : decode cX2_addPerson 66 = .ok (.iadd, 1) := by decide +kernel
theorem dX2_addPerson_67 : decode cX2_addPerson 67 = .ok (.putfield 78, 3) := by decide +kernel
theorem dX2_addPerson_70 : decode cX2_addPerson 70 = .ok (.ireturn, 1) := by decide +kernel
theorem dX2_isBridge_0 : decode cX2_isBridge 0 = .ok (.iload_n 1, 1) := by decide +kernel
theorem dX2_isBridge_1 : decode cX2_isBridge 1 = .ok (.ifCond .lt 15, 3) := by decide +kernel
theorem dX2_isBridge_4 : decode cX2_isBridge 4 = .ok (.iload_n 1, 1) := by decide +kernel
theorem dX2_isBridge_5 : decode cX2_isBridge 5 = .ok (.aload_n 0, 1) := by decide +kernel
theorem dX2_isBridge_6 : decode cX2_isBridge 6 = .ok (.getfield 68, 3) := by decide +kernel
theorem dX2_isBridge_9 : decode cX2_isBridge 9 = .ok (.if_icmp .ge 7, 3) := by decide +kernel
theorem dX2_isBridge_12 : decode cX2_isBridge 12 = .ok (.iconst 1, 1) := by decide +kernel
theorem dX2_isBridge_13 : decode cX2_isBridge 13 = .ok (.goto 4, 3) := by decide +kernel
theorem dX2_isBridge_16 : decode cX2_isBridge 16 = .ok (.iconst 0, 1) := by decide +kernel
theorem dX2_isBridge_17 : decode cX2_isBridge 17 = .ok (.ireturn, 1) := by decide +kernel
theorem dX2_isPerson_0 : decode cX2_isPerson 0 = .ok (.iload_n 1, 1) := by decide +kernel
theorem dX2_isPerson_1 : decode cX2_isPerson 1 = .ok (.ifCond .lt 15, 3) := by decide +kernel
theorem dX2_isPerson_4 : decode cX2_isPerson 4 = .ok (.iload_n 1, 1) := by decide +kernel
theorem dX2_isPerson_5 : decode cX2_isPerson 5 = .ok (.aload_n 0, 1) := by decide +kernel
theorem dX2_isPerson_6 : decode cX2_isPerson 6 = .ok (.getfield 78, 3) := by decide +kernel
theorem dX2_isPerson_9 : decode cX2_isPerson 9 = .ok (.if_icmp .ge 7, 3) := by decide +kernel
theorem dX2_isPerson_12 : decode cX2_isPerson 12 = .ok (.iconst 1, 1) := by decide +kernel
theorem dX2_isPerson_13 : decode cX2_isPerson 13 = .ok (.goto 4, 3) := by decide +kernel
theorem dX2_isPerson_16 : decode cX2_isPerson 16 = .ok (.iconst 0, 1) := by decide +kernel
theorem dX2_isPerson_17 : decode cX2_isPerson 17 = .ok (.ireturn, 1) := by decide +kernel
theorem dX2_isPlace_0 : decode cX2_isPlace 0 = .ok (.iload_n 1, 1) := by decide +kernel
theorem dX2_isPlace_1 : decode cX2_isPlace 1 = .ok (.ifCond .lt 17, 3) := by decide +kernel
theorem dX2_isPlace_4 : decode cX2_isPlace 4 = .ok (.iload_n 1, 1) := by decide +kernel
theorem dX2_isPlace_5 : decode cX2_isPlace 5 = .ok (.iconst 5, 1) := by decide +kernel
theorem dX2_isPlace_6 : decode cX2_isPlace 6 = .ok (.aload_n 0, 1) := by decide +kernel
theorem dX2_isPlace_7 : decode cX2_isPlace 7 = .ok (.getfield 68, 3) := by decide +kernel
theorem dX2_isPlace_10 : decode cX2_isPlace 10 = .ok (.iadd, 1) := by decide +kernel
theorem dX2_isPlace_11 : decode cX2_isPlace 11 = .ok (.if_icmp .ge 7, 3) := by decide +kernel
theorem dX2_isPlace_14 : decode cX2_isPlace 14 = .ok (.iconst 1, 1) := by decide +kernel
theorem dX2_isPlace_15 : decode cX2_isPlace 15 = .ok (.goto 4, 3) := by decide +kernel
theorem dX2_isPlace_18 : decode cX2_isPlace 18 = .ok (.iconst 0, 1) := by decide +kernel
theorem dX2_isPlace_19 : decode cX2_isPlace 19 = .ok (.ireturn, 1) := by decide +kernel
theorem dX2_areBridges_0 : decode cX2_areBridges 0 = .ok (.iload_n 1, 1) := by decide +kernel
theorem dX2_areBridges_1 : decode cX2_areBridges 1 = .ok (.ifCond .lt 15, 3) := by decide +kernel
theorem dX2_areBridges_4 : decode cX2_areBridges 4 = .ok (.iload_n 1, 1) := by decide +kernel
theorem dX2_areBridges_5 : decode cX2_areBridges 5 = .ok (.aload_n 0, 1) := by decide +kernel
theorem dX2_areBridges_6 : decode cX2_areBridges 6 = .ok (.invokevirtual 104, 3) := by decide +kernel
theorem dX2_areBridges_9 : decode cX2_areBridges 9 = .ok (.if_icmp .gt 7, 3) := by decide +kernel
theorem dX2_areBridges_12 : decode cX2_areBridges 12 = .ok (.iconst 1, 1) := by decide +kernel
theorem dX2_areBridges_13 : decode cX2_areBridges 13 = .ok (.goto 4, 3) := by decide +kernel
theorem dX2_areBridges_16 : decode cX2_areBridges 16 = .ok (.iconst 0, 1) := by decide +kernel
theorem dX2_areBridges_17 : decode cX2_areBridges 17 = .ok (.ireturn, 1) := by decide +kernel
theorem dX2_areSome_0 : decode cX2_areSome 0 = .ok (.iload_n 1, 1) := by decide +kernel
theorem dX2_areSome_1 : decode cX2_areSome 1 = .ok (.ifCond .lt 17, 3) := by decide +kernel
theorem dX2_areSome_4 : decode cX2_areSome 4 = .ok (.iload_n 1, 1) := by decide +kernel
theorem dX2_areSome_5 : decode cX2_areSome 5 = .ok (.iconst 1, 1) := by decide +kernel
theorem dX2_areSome_6 : decode cX2_areSome 6 = .ok (.aload_n 0, 1) := by decide +kernel
theorem dX2_areSome_7 : decode cX2_areSome 7 = .ok (.getfield 78, 3) := by decide +kernel
theorem dX2_areSome_10 : decode cX2_areSome 10 = .ok (.ishl, 1) := by decide +kernel
theorem dX2_areSome_11 : decode cX2_areSome 11 = .ok (.if_icmp .ge 7, 3) := by decide +kernel
theorem dX2_areSome_14 : decode cX2_areSome 14 = .ok (.iconst 1, 1) := by decide +kernel
theorem dX2_areSome_15 : decode cX2_areSome 15 = .ok (.goto 4, 3) := by decide +kernel
theorem dX2_areSome_18 : decode cX2_areSome 18 = .ok (.iconst 0, 1) := by decide +kernel
theorem dX2_areSome_19 : decode cX2_areSome 19 = .ok (.ireturn, 1) := by decide +kernel
theorem dX2_allBridges_0 : decode cX2_allBridges 0 = .ok (.iconst 1, 1) := by decide +kernel
theorem dX2_allBridges_1 : decode cX2_allBridges 1 = .ok (.aload_n 0, 1) := by decide +kernel
theorem dX2_allBridges_2 : decode cX2_allBridges 2 = .ok (.getfield 68, 3) := by decide +kernel
theorem dX2_allBridges_5 : decode cX2_allBridges 5 = .ok (.ishl, 1) := by decide +kernel
theorem dX2_allBridges_6 : decode cX2_allBridges 6 = .ok (.iconst 1, 1) := by decide +kernel
theorem dX2_allBridges_7 : decode cX2_allBridges 7 = .ok (.isub, 1) := by decide +kernel
theorem dX2_allBridges_8 : decode cX2_allBridges 8 = .ok (.ireturn, 1) := by decide +kernel
theorem dX2_bridgesOf_0 : decode cX2_bridgesOf 0 = .ok (.iconst 0, 1) := by decide +kernel
theorem dX2_bridgesOf_1 : decode cX2_bridgesOf 1 = .ok (.istore_n 2, 1) := by decide +kernel
theorem dX2_bridgesOf_2 : decode cX2_bridgesOf 2 = .ok (.iconst 0, 1) := by decide +kernel
theorem dX2_bridgesOf_3 : decode cX2_bridgesOf 3 = .ok (.istore_n 3, 1) := by decide +kernel
theorem dX2_bridgesOf_4 : decode cX2_bridgesOf 4 = .ok (.iload_n 3, 1) := by decide +kernel
theorem dX2_bridgesOf_5 : decode cX2_bridgesOf 5 = .ok (.aload_n 0, 1) := by decide +kernel
theorem dX2_bridgesOf_6 : decode cX2_bridgesOf 6 = .ok (.getfield 68, 3) := by decide +kernel
theorem dX2_bridgesOf_9 : decode cX2_bridgesOf 9 = .ok (.if_icmp .ge 24, 3) := by decide +kernel
theorem dX2_bridgesOf_12 : decode cX2_bridgesOf 12 = .ok (.aload_n 0, 1) := by decide +kernel
theorem dX2_bridgesOf_13 : decode cX2_bridgesOf 13 = .ok (.iload_n 3, 1) := by decide +kernel
theorem dX2_bridgesOf_14 : decode cX2_bridgesOf 14 = .ok (.iload_n 1, 1) := by decide +kernel
theorem dX2_bridgesOf_15 : decode cX2_bridgesOf 15 = .ok (.invokevirtual 108, 3) := by decide +kernel
theorem dX2_bridgesOf_18 : decode cX2_bridgesOf 18 = .ok (.ifCond .eq 9, 3) := by decide +kernel
theorem dX2_bridgesOf_21 : decode cX2_bridgesOf 21 = .ok (.iload_n 2, 1) := by decide +kernel
theorem dX2_bridgesOf_22 : decode cX2_bridgesOf 22 = .ok (.iconst 1, 1) := by decide +kernel
theorem dX2_bridgesOf_23 : decode cX2_bridgesOf 23 = .ok (.iload_n 3, 1) := by decide +kernel
theorem dX2_bridgesOf_24 : decode cX2_bridgesOf 24 = .ok (.ishl, 1) := by decide +kernel
theorem dX2_bridgesOf_25 : decode cX2_bridgesOf 25 = .ok (.ior, 1) := by decide +kernel
theorem dX2_bridgesOf_26 : decode cX2_bridgesOf 26 = .ok (.istore_n 2, 1) := by decide +kernel
theorem dX2_bridgesOf_27 : decode cX2_bridgesOf 27 = .ok (.iinc 3 1, 3) := by decide +kernel
theorem dX2_bridgesOf_30 : decode cX2_bridgesOf 30 = .ok (.goto (-26), 3) := by decide +kernel
theorem dX2_bridgesOf_33 : decode cX2_bridgesOf 33 = .ok (.iload_n 2, 1) := by decide +kernel
theorem dX2_bridgesOf_34 : decode cX2_bridgesOf 34 = .ok (.ireturn, 1) := by decide +kernel
theorem dX2_joins_0 : decode cX2_joins 0 = .ok (.aload_n 0, 1) := by decide +kernel
theorem dX2_joins_1 : decode cX2_joins 1 = .ok (.getfield 33, 3) := by decide +kernel
theorem dX2_joins_4 : decode cX2_joins 4 = .ok (.iload_n 1, 1) := by decide +kernel
theorem dX2_joins_5 : decode cX2_joins 5 = .ok (.iaload, 1) := by decide +kernel
theorem dX2_joins_6 : decode cX2_joins 6 = .ok (.iload_n 2, 1) := by decide +kernel
theorem dX2_joins_7 : decode cX2_joins 7 = .ok (.if_icmp .eq 13, 3) := by decide +kernel
theorem dX2_joins_10 : decode cX2_joins 10 = .ok (.aload_n 0, 1) := by decide +kernel
theorem dX2_joins_11 : decode cX2_joins 11 = .ok (.getfield 37, 3) := by decide +kernel
theorem dX2_joins_14 : decode cX2_joins 14 = .ok (.iload_n 1, 1) := by decide +kernel
theorem dX2_joins_15 : decode cX2_joins 15 = .ok (.iaload, 1) := by decide +kernel
theorem dX2_joins_16 : decode cX2_joins 16 = .ok (.iload_n 2, 1) := by decide +kernel
theorem dX2_joins_17 : decode cX2_joins 17 = .ok (.if_icmp .ne 7, 3) := by decide +kernel
theorem dX2_joins_20 : decode cX2_joins 20 = .ok (.iconst 1, 1) := by decide +kernel
theorem dX2_joins_21 : decode cX2_joins 21 = .ok (.goto 4, 3) := by decide +kernel
theorem dX2_joins_24 : decode cX2_joins 24 = .ok (.iconst 0, 1) := by decide +kernel
theorem dX2_joins_25 : decode cX2_joins 25 = .ok (.ireturn, 1) := by decide +kernel
theorem dX2_isDown_0 : decode cX2_isDown 0 = .ok (.aload_n 0, 1) := by decide +kernel
theorem dX2_isDown_1 : decode cX2_isDown 1 = .ok (.getfield 72, 3) := by decide +kernel
theorem dX2_isDown_4 : decode cX2_isDown 4 = .ok (.iload_n 1, 1) := by decide +kernel
theorem dX2_isDown_5 : decode cX2_isDown 5 = .ok (.ishr, 1) := by decide +kernel
theorem dX2_isDown_6 : decode cX2_isDown 6 = .ok (.iconst 1, 1) := by decide +kernel
theorem dX2_isDown_7 : decode cX2_isDown 7 = .ok (.iand, 1) := by decide +kernel
theorem dX2_isDown_8 : decode cX2_isDown 8 = .ok (.iconst 1, 1) := by decide +kernel
theorem dX2_isDown_9 : decode cX2_isDown 9 = .ok (.if_icmp .ne 7, 3) := by decide +kernel
theorem dX2_isDown_12 : decode cX2_isDown 12 = .ok (.iconst 1, 1) := by decide +kernel
theorem dX2_isDown_13 : decode cX2_isDown 13 = .ok (.goto 4, 3) := by decide +kernel
theorem dX2_isDown_16 : decode cX2_isDown 16 = .ok (.iconst 0, 1) := by decide +kernel
theorem dX2_isDown_17 : decode cX2_isDown 17 = .ok (.ireturn, 1) := by decide +kernel
theorem dX2_isTied_0 : decode cX2_isTied 0 = .ok (.iconst 0, 1) := by decide +kernel
theorem dX2_isTied_1 : decode cX2_isTied 1 = .ok (.istore_n 2, 1) := by decide +kernel
theorem dX2_isTied_2 : decode cX2_isTied 2 = .ok (.iload_n 2, 1) := by decide +kernel
theorem dX2_isTied_3 : decode cX2_isTied 3 = .ok (.aload_n 0, 1) := by decide +kernel
theorem dX2_isTied_4 : decode cX2_isTied 4 = .ok (.getfield 75, 3) := by decide +kernel
theorem dX2_isTied_7 : decode cX2_isTied 7 = .ok (.if_icmp .ge 31, 3) := by decide +kernel
theorem dX2_isTied_10 : decode cX2_isTied 10 = .ok (.aload_n 0, 1) := by decide +kernel
theorem dX2_isTied_11 : decode cX2_isTied 11 = .ok (.getfield 46, 3) := by decide +kernel
theorem dX2_isTied_14 : decode cX2_isTied 14 = .ok (.iload_n 2, 1) := by decide +kernel
theorem dX2_isTied_15 : decode cX2_isTied 15 = .ok (.iaload, 1) := by decide +kernel
theorem dX2_isTied_16 : decode cX2_isTied 16 = .ok (.iload_n 1, 1) := by decide +kernel
theorem dX2_isTied_17 : decode cX2_isTied 17 = .ok (.if_icmp .eq 13, 3) := by decide +kernel
theorem dX2_isTied_20 : decode cX2_isTied 20 = .ok (.aload_n 0, 1) := by decide +kernel
theorem dX2_isTied_21 : decode cX2_isTied 21 = .ok (.getfield 49, 3) := by decide +kernel
theorem dX2_isTied_24 : decode cX2_isTied 24 = .ok (.iload_n 2, 1) := by decide +kernel
theorem dX2_isTied_25 : decode cX2_isTied 25 = .ok (.iaload, 1) := by decide +kernel
theorem dX2_isTied_26 : decode cX2_isTied 26 = .ok (.iload_n 1, 1) := by decide +kernel
theorem dX2_isTied_27 : decode cX2_isTied 27 = .ok (.if_icmp .ne 5, 3) := by decide +kernel
theorem dX2_isTied_30 : decode cX2_isTied 30 = .ok (.iconst 1, 1) := by decide +kernel
theorem dX2_isTied_31 : decode cX2_isTied 31 = .ok (.ireturn, 1) := by decide +kernel
theorem dX2_isTied_32 : decode cX2_isTied 32 = .ok (.iinc 2 1, 3) := by decide +kernel
theorem dX2_isTied_35 : decode cX2_isTied 35 = .ok (.goto (-33), 3) := by decide +kernel
theorem dX2_isTied_38 : decode cX2_isTied 38 = .ok (.iconst 0, 1) := by decide +kernel
theorem dX2_isTied_39 : decode cX2_isTied 39 = .ok (.ireturn, 1) := by decide +kernel
theorem dX2_loadOn_0 : decode cX2_loadOn 0 = .ok (.aload_n 0, 1) := by decide +kernel
theorem dX2_loadOn_1 : decode cX2_loadOn 1 = .ok (.getfield 43, 3) := by decide +kernel
theorem dX2_loadOn_4 : decode cX2_loadOn 4 = .ok (.iload_n 1, 1) := by decide +kernel
theorem dX2_loadOn_5 : decode cX2_loadOn 5 = .ok (.iaload, 1) := by decide +kernel
theorem dX2_loadOn_6 : decode cX2_loadOn 6 = .ok (.istore_n 2, 1) := by decide +kernel
theorem dX2_loadOn_7 : decode cX2_loadOn 7 = .ok (.iconst 0, 1) := by decide +kernel
theorem dX2_loadOn_8 : decode cX2_loadOn 8 = .ok (.istore_n 3, 1) := by decide +kernel
theorem dX2_loadOn_9 : decode cX2_loadOn 9 = .ok (.iload_n 3, 1) := by decide +kernel
theorem dX2_loadOn_10 : decode cX2_loadOn 10 = .ok (.aload_n 0, 1) := by decide +kernel
theorem dX2_loadOn_11 : decode cX2_loadOn 11 = .ok (.getfield 78, 3) := by decide +kernel
theorem dX2_loadOn_14 : decode cX2_loadOn 14 = .ok (.if_icmp .ge 30, 3) := by decide +kernel
theorem dX2_loadOn_17 : decode cX2_loadOn 17 = .ok (.aload_n 0, 1) := by decide +kernel
theorem dX2_loadOn_18 : decode cX2_loadOn 18 = .ok (.getfield 58, 3) := by decide +kernel
theorem dX2_loadOn_21 : decode cX2_loadOn 21 = .ok (.iload_n 3, 1) := by decide +kernel
theorem dX2_loadOn_22 : decode cX2_loadOn 22 = .ok (.iaload, 1) := by decide +kernel
theorem dX2_loadOn_23 : decode cX2_loadOn 23 = .ok (.iconst 5, 1) := by decide +kernel
theorem dX2_loadOn_24 : decode cX2_loadOn 24 = .ok (.iload_n 1, 1) := by decide +kernel
theorem dX2_loadOn_25 : decode cX2_loadOn 25 = .ok (.iadd, 1) := by decide +kernel
theorem dX2_loadOn_26 : decode cX2_loadOn 26 = .ok (.if_icmp .ne 12, 3) := by decide +kernel
theorem dX2_loadOn_29 : decode cX2_loadOn 29 = .ok (.iload_n 2, 1) := by decide +kernel
theorem dX2_loadOn_30 : decode cX2_loadOn 30 = .ok (.aload_n 0, 1) := by decide +kernel
theorem dX2_loadOn_31 : decode cX2_loadOn 31 = .ok (.getfield 55, 3) := by decide +kernel
theorem dX2_loadOn_34 : decode cX2_loadOn 34 = .ok (.iload_n 3, 1) := by decide +kernel
theorem dX2_loadOn_35 : decode cX2_loadOn 35 = .ok (.iaload, 1) := by decide +kernel
theorem dX2_loadOn_36 : decode cX2_loadOn 36 = .ok (.iadd, 1) := by decide +kernel
theorem dX2_loadOn_37 : decode cX2_loadOn 37 = .ok (.istore_n 2, 1) := by decide +kernel
theorem dX2_loadOn_38 : decode cX2_loadOn 38 = .ok (.iinc 3 1, 3) := by decide +kernel
theorem dX2_loadOn_41 : decode cX2_loadOn 41 = .ok (.goto (-32), 3) := by decide +kernel
theorem dX2_loadOn_44 : decode cX2_loadOn 44 = .ok (.aload_n 0, 1) := by decide +kernel
theorem dX2_loadOn_45 : decode cX2_loadOn 45 = .ok (.getfield 27, 3) := by decide +kernel
theorem dX2_loadOn_48 : decode cX2_loadOn 48 = .ok (.aload_n 0, 1) := by decide +kernel
theorem dX2_loadOn_49 : decode cX2_loadOn 49 = .ok (.getfield 40, 3) := by decide +kernel
theorem dX2_loadOn_52 : decode cX2_loadOn 52 = .ok (.iload_n 1, 1) := by decide +kernel
theorem dX2_loadOn_53 : decode cX2_loadOn 53 = .ok (.iaload, 1) := by decide +kernel
theorem dX2_loadOn_54 : decode cX2_loadOn 54 = .ok (.aaload, 1) := by decide +kernel
theorem dX2_loadOn_55 : decode cX2_loadOn 55 = .ok (.iload_n 2, 1) := by decide +kernel
theorem dX2_loadOn_56 : decode cX2_loadOn 56 = .ok (.invokevirtual 112, 3) := by decide +kernel
theorem dX2_loadOn_59 : decode cX2_loadOn 59 = .ok (.ireturn, 1) := by decide +kernel
theorem dX2_areIn_0 : decode cX2_areIn 0 = .ok (.iconst 0, 1) := by decide +kernel
theorem dX2_areIn_1 : decode cX2_areIn 1 = .ok (.istore_n 3, 1) := by decide +kernel
theorem dX2_areIn_2 : decode cX2_areIn 2 = .ok (.iload_n 3, 1) := by decide +kernel
theorem dX2_areIn_3 : decode cX2_areIn 3 = .ok (.aload_n 0, 1) := by decide +kernel
theorem dX2_areIn_4 : decode cX2_areIn 4 = .ok (.getfield 78, 3) := by decide +kernel
theorem dX2_areIn_7 : decode cX2_areIn 7 = .ok (.if_icmp .ge 30, 3) := by decide +kernel
theorem dX2_areIn_10 : decode cX2_areIn 10 = .ok (.iload_n 1, 1) := by decide +kernel
theorem dX2_areIn_11 : decode cX2_areIn 11 = .ok (.iload_n 3, 1) := by decide +kernel
theorem dX2_areIn_12 : decode cX2_areIn 12 = .ok (.ishr, 1) := by decide +kernel
theorem dX2_areIn_13 : decode cX2_areIn 13 = .ok (.iconst 1, 1) := by decide +kernel
theorem dX2_areIn_14 : decode cX2_areIn 14 = .ok (.iand, 1) := by decide +kernel
theorem dX2_areIn_15 : decode cX2_areIn 15 = .ok (.iconst 1, 1) := by decide +kernel
theorem dX2_areIn_16 : decode cX2_areIn 16 = .ok (.if_icmp .ne 15, 3) := by decide +kernel
theorem dX2_areIn_19 : decode cX2_areIn 19 = .ok (.aload_n 0, 1) := by decide +kernel
theorem dX2_areIn_20 : decode cX2_areIn 20 = .ok (.getfield 58, 3) := by decide +kernel
theorem dX2_areIn_23 : decode cX2_areIn 23 = .ok (.iload_n 3, 1) := by decide +kernel
theorem dX2_areIn_24 : decode cX2_areIn 24 = .ok (.iaload, 1) := by decide +kernel
theorem dX2_areIn_25 : decode cX2_areIn 25 = .ok (.iload_n 2, 1) := by decide +kernel
theorem dX2_areIn_26 : decode cX2_areIn 26 = .ok (.if_icmp .eq 5, 3) := by decide +kernel
theorem dX2_areIn_29 : decode cX2_areIn 29 = .ok (.iconst 0, 1) := by decide +kernel
theorem dX2_areIn_30 : decode cX2_areIn 30 = .ok (.ireturn, 1) := by decide +kernel
theorem dX2_areIn_31 : decode cX2_areIn 31 = .ok (.iinc 3 1, 3) := by decide +kernel
theorem dX2_areIn_34 : decode cX2_areIn 34 = .ok (.goto (-32), 3) := by decide +kernel
theorem dX2_areIn_37 : decode cX2_areIn 37 = .ok (.iconst 1, 1) := by decide +kernel
theorem dX2_areIn_38 : decode cX2_areIn 38 = .ok (.ireturn, 1) := by decide +kernel
theorem dX2_canGo_0 : decode cX2_canGo 0 = .ok (.aload_n 0, 1) := by decide +kernel
theorem dX2_canGo_1 : decode cX2_canGo 1 = .ok (.getfield 58, 3) := by decide +kernel
theorem dX2_canGo_4 : decode cX2_canGo 4 = .ok (.iload_n 1, 1) := by decide +kernel
theorem dX2_canGo_5 : decode cX2_canGo 5 = .ok (.iaload, 1) := by decide +kernel
theorem dX2_canGo_6 : decode cX2_canGo 6 = .ok (.istore_n 3, 1) := by decide +kernel
theorem dX2_canGo_7 : decode cX2_canGo 7 = .ok (.iload_n 3, 1) := by decide +kernel
theorem dX2_canGo_8 : decode cX2_canGo 8 = .ok (.iconst 5, 1) := by decide +kernel
theorem dX2_canGo_9 : decode cX2_canGo 9 = .ok (.if_icmp .ge 7, 3) := by decide +kernel
theorem dX2_canGo_12 : decode cX2_canGo 12 = .ok (.iconst 1, 1) := by decide +kernel
theorem dX2_canGo_13 : decode cX2_canGo 13 = .ok (.goto 4, 3) := by decide +kernel
theorem dX2_canGo_16 : decode cX2_canGo 16 = .ok (.iconst 0, 1) := by decide +kernel
theorem dX2_canGo_17 : decode cX2_canGo 17 = .ok (.iload_n 2, 1) := by decide +kernel
theorem dX2_canGo_18 : decode cX2_canGo 18 = .ok (.iconst 5, 1) := by decide +kernel
theorem dX2_canGo_19 : decode cX2_canGo 19 = .ok (.if_icmp .ge 7, 3) := by decide +kernel
theorem dX2_canGo_22 : decode cX2_canGo 22 = .ok (.iconst 1, 1) := by decide +kernel
theorem dX2_canGo_23 : decode cX2_canGo 23 = .ok (.goto 4, 3) := by decide +kernel
theorem dX2_canGo_26 : decode cX2_canGo 26 = .ok (.iconst 0, 1) := by decide +kernel
theorem dX2_canGo_27 : decode cX2_canGo 27 = .ok (.if_icmp .ne 5, 3) := by decide +kernel
theorem dX2_canGo_30 : decode cX2_canGo 30 = .ok (.iconst 0, 1) := by decide +kernel
theorem dX2_canGo_31 : decode cX2_canGo 31 = .ok (.ireturn, 1) := by decide +kernel
theorem dX2_canGo_32 : decode cX2_canGo 32 = .ok (.iload_n 3, 1) := by decide +kernel
theorem dX2_canGo_33 : decode cX2_canGo 33 = .ok (.iload_n 2, 1) := by decide +kernel
theorem dX2_canGo_34 : decode cX2_canGo 34 = .ok (.invokestatic 116, 3) := by decide +kernel
theorem dX2_canGo_37 : decode cX2_canGo 37 = .ok (.istore 4, 2) := by decide +kernel
theorem dX2_canGo_39 : decode cX2_canGo 39 = .ok (.iload_n 3, 1) := by decide +kernel
theorem dX2_canGo_40 : decode cX2_canGo 40 = .ok (.iload_n 2, 1) := by decide +kernel
theorem dX2_canGo_41 : decode cX2_canGo 41 = .ok (.invokestatic 122, 3) := by decide +kernel
theorem dX2_canGo_44 : decode cX2_canGo 44 = .ok (.iconst 5, 1) := by decide +kernel
theorem dX2_canGo_45 : decode cX2_canGo 45 = .ok (.isub, 1) := by decide +kernel
theorem dX2_canGo_46 : decode cX2_canGo 46 = .ok (.istore 5, 2) := by decide +kernel
theorem dX2_canGo_48 : decode cX2_canGo 48 = .ok (.aload_n 0, 1) := by decide +kernel
theorem dX2_canGo_49 : decode cX2_canGo 49 = .ok (.iload 5, 2) := by decide +kernel
theorem dX2_canGo_51 : decode cX2_canGo 51 = .ok (.invokevirtual 125, 3) := by decide +kernel
theorem dX2_canGo_54 : decode cX2_canGo 54 = .ok (.ifCond .eq 18, 3) := by decide +kernel
theorem dX2_canGo_57 : decode cX2_canGo 57 = .ok (.aload_n 0, 1) := by decide +kernel
theorem dX2_canGo_58 : decode cX2_canGo 58 = .ok (.iload 5, 2) := by decide +kernel
theorem dX2_canGo_60 : decode cX2_canGo 60 = .ok (.iload 4, 2) := by decide +kernel
theorem dX2_canGo_62 : decode cX2_canGo 62 = .ok (.invokevirtual 108, 3) := by decide +kernel
theorem dX2_canGo_65 : decode cX2_canGo 65 = .ok (.ifCond .eq 7, 3) := by decide +kernel
theorem dX2_canGo_68 : decode cX2_canGo 68 = .ok (.iconst 1, 1) := by decide +kernel
theorem dX2_canGo_69 : decode cX2_canGo 69 = .ok (.goto 4, 3) := by decide +kernel
theorem dX2_canGo_72 : decode cX2_canGo 72 = .ok (.iconst 0, 1) := by decide +kernel
theorem dX2_canGo_73 : decode cX2_canGo 73 = .ok (.ireturn, 1) := by decide +kernel
theorem dX2_go_0 : decode cX2_go 0 = .ok (.aload_n 0, 1) := by decide +kernel
theorem dX2_go_1 : decode cX2_go 1 = .ok (.getfield 58, 3) := by decide +kernel
theorem dX2_go_4 : decode cX2_go 4 = .ok (.iload_n 1, 1) := by decide +kernel
theorem dX2_go_5 : decode cX2_go 5 = .ok (.iload_n 2, 1) := by decide +kernel
theorem dX2_go_6 : decode cX2_go 6 = .ok (.iastore, 1) := by decide +kernel
theorem dX2_go_7 : decode cX2_go 7 = .ok (.iconst 0, 1) := by decide +kernel
theorem dX2_go_8 : decode cX2_go 8 = .ok (.istore_n 3, 1) := by decide +kernel
theorem dX2_go_9 : decode cX2_go 9 = .ok (.iload_n 3, 1) := by decide +kernel
theorem dX2_go_10 : decode cX2_go 10 = .ok (.aload_n 0, 1) := by decide +kernel
theorem dX2_go_11 : decode cX2_go 11 = .ok (.getfield 75, 3) := by decide +kernel
theorem dX2_go_14 : decode cX2_go 14 = .ok (.if_icmp .ge 82, 3) := by decide +kernel
theorem dX2_go_17 : decode cX2_go 17 = .ok (.aload_n 0, 1) := by decide +kernel
theorem dX2_go_18 : decode cX2_go 18 = .ok (.getfield 46, 3) := by decide +kernel
theorem dX2_go_21 : decode cX2_go 21 = .ok (.iload_n 3, 1) := by decide +kernel
theorem dX2_go_22 : decode cX2_go 22 = .ok (.iaload, 1) := by decide +kernel
theorem dX2_go_23 : decode cX2_go 23 = .ok (.istore 4, 2) := by decide +kernel
theorem dX2_go_25 : decode cX2_go 25 = .ok (.aload_n 0, 1) := by decide +kernel
theorem dX2_go_26 : decode cX2_go 26 = .ok (.getfield 49, 3) := by decide +kernel
theorem dX2_go_29 : decode cX2_go 29 = .ok (.iload_n 3, 1) := by decide +kernel
theorem dX2_go_30 : decode cX2_go 30 = .ok (.iaload, 1) := by decide +kernel
theorem dX2_go_31 : decode cX2_go 31 = .ok (.istore 5, 2) := by decide +kernel
theorem dX2_go_33 : decode cX2_go 33 = .ok (.aload_n 0, 1) := by decide +kernel
theorem dX2_go_34 : decode cX2_go 34 = .ok (.iload 4, 2) := by decide +kernel
theorem dX2_go_36 : decode cX2_go 36 = .ok (.invokevirtual 128, 3) := by decide +kernel
theorem dX2_go_39 : decode cX2_go 39 = .ok (.aload_n 0, 1) := by decide +kernel
theorem dX2_go_40 : decode cX2_go 40 = .ok (.iload 5, 2) := by decide +kernel
theorem dX2_go_42 : decode cX2_go 42 = .ok (.invokevirtual 128, 3) := by decide +kernel
theorem dX2_go_45 : decode cX2_go 45 = .ok (.isub, 1) := by decide +kernel
theorem dX2_go_46 : decode cX2_go 46 = .ok (.istore 6, 2) := by decide +kernel
theorem dX2_go_48 : decode cX2_go 48 = .ok (.iload 6, 2) := by decide +kernel
theorem dX2_go_50 : decode cX2_go 50 = .ok (.aload_n 0, 1) := by decide +kernel
theorem dX2_go_51 : decode cX2_go 51 = .ok (.getfield 52, 3) := by decide +kernel
theorem dX2_go_54 : decode cX2_go 54 = .ok (.iload_n 3, 1) := by decide +kernel
theorem dX2_go_55 : decode cX2_go 55 = .ok (.iaload, 1) := by decide +kernel
theorem dX2_go_56 : decode cX2_go 56 = .ok (.if_icmp .le 14, 3) := by decide +kernel
theorem dX2_go_59 : decode cX2_go 59 = .ok (.aload_n 0, 1) := by decide +kernel
theorem dX2_go_60 : decode cX2_go 60 = .ok (.iload 4, 2) := by decide +kernel
theorem dX2_go_62 : decode cX2_go 62 = .ok (.iload 5, 2) := by decide +kernel
theorem dX2_go_64 : decode cX2_go 64 = .ok (.invokevirtual 131, 3) := by decide +kernel
theorem dX2_go_67 : decode cX2_go 67 = .ok (.goto 23, 3) := by decide +kernel
theorem dX2_go_70 : decode cX2_go 70 = .ok (.iload 6, 2) := by decide +kernel
theorem dX2_go_72 : decode cX2_go 72 = .ok (.ineg, 1) := by decide +kernel
theorem dX2_go_73 : decode cX2_go 73 = .ok (.aload_n 0, 1) := by decide +kernel
theorem dX2_go_74 : decode cX2_go 74 = .ok (.getfield 52, 3) := by decide +kernel
theorem dX2_go_77 : decode cX2_go 77 = .ok (.iload_n 3, 1) := by decide +kernel
theorem dX2_go_78 : decode cX2_go 78 = .ok (.iaload, 1) := by decide +kernel
theorem dX2_go_79 : decode cX2_go 79 = .ok (.if_icmp .le 11, 3) := by decide +kernel
theorem dX2_go_82 : decode cX2_go 82 = .ok (.aload_n 0, 1) := by decide +kernel
theorem dX2_go_83 : decode cX2_go 83 = .ok (.iload 5, 2) := by decide +kernel
theorem dX2_go_85 : decode cX2_go 85 = .ok (.iload 4, 2) := by decide +kernel
theorem dX2_go_87 : decode cX2_go 87 = .ok (.invokevirtual 131, 3) := by decide +kernel
theorem dX2_go_90 : decode cX2_go 90 = .ok (.iinc 3 1, 3) := by decide +kernel
theorem dX2_go_93 : decode cX2_go 93 = .ok (.goto (-84), 3) := by decide +kernel
theorem dX2_go_96 : decode cX2_go 96 = .ok (.return_, 1) := by decide +kernel
theorem dX2_tip_0 : decode cX2_tip 0 = .ok (.aload_n 0, 1) := by decide +kernel
theorem dX2_tip_1 : decode cX2_tip 1 = .ok (.iload_n 1, 1) := by decide +kernel
theorem dX2_tip_2 : decode cX2_tip 2 = .ok (.invokevirtual 125, 3) := by decide +kernel
theorem dX2_tip_5 : decode cX2_tip 5 = .ok (.ifCond .ne 20, 3) := by decide +kernel
theorem dX2_tip_8 : decode cX2_tip 8 = .ok (.aload_n 0, 1) := by decide +kernel
theorem dX2_tip_9 : decode cX2_tip 9 = .ok (.getfield 27, 3) := by decide +kernel
theorem dX2_tip_12 : decode cX2_tip 12 = .ok (.aload_n 0, 1) := by decide +kernel
theorem dX2_tip_13 : decode cX2_tip 13 = .ok (.getfield 40, 3) := by decide +kernel
theorem dX2_tip_16 : decode cX2_tip 16 = .ok (.iload_n 1, 1) := by decide +kernel
theorem dX2_tip_17 : decode cX2_tip 17 = .ok (.iaload, 1) := by decide +kernel
theorem dX2_tip_18 : decode cX2_tip 18 = .ok (.aaload, 1) := by decide +kernel
theorem dX2_tip_19 : decode cX2_tip 19 = .ok (.invokevirtual 135, 3) := by decide +kernel
theorem dX2_tip_22 : decode cX2_tip 22 = .ok (.ifCond .eq 7, 3) := by decide +kernel
theorem dX2_tip_25 : decode cX2_tip 25 = .ok (.iconst 1, 1) := by decide +kernel
theorem dX2_tip_26 : decode cX2_tip 26 = .ok (.goto 4, 3) := by decide +kernel
theorem dX2_tip_29 : decode cX2_tip 29 = .ok (.iconst 0, 1) := by decide +kernel
theorem dX2_tip_30 : decode cX2_tip 30 = .ok (.istore_n 3, 1) := by decide +kernel
theorem dX2_tip_31 : decode cX2_tip 31 = .ok (.aload_n 0, 1) := by decide +kernel
theorem dX2_tip_32 : decode cX2_tip 32 = .ok (.iload_n 2, 1) := by decide +kernel
theorem dX2_tip_33 : decode cX2_tip 33 = .ok (.invokevirtual 125, 3) := by decide +kernel
theorem dX2_tip_36 : decode cX2_tip 36 = .ok (.ifCond .eq 20, 3) := by decide +kernel
theorem dX2_tip_39 : decode cX2_tip 39 = .ok (.aload_n 0, 1) := by decide +kernel
theorem dX2_tip_40 : decode cX2_tip 40 = .ok (.getfield 27, 3) := by decide +kernel
theorem dX2_tip_43 : decode cX2_tip 43 = .ok (.aload_n 0, 1) := by decide +kernel
theorem dX2_tip_44 : decode cX2_tip 44 = .ok (.getfield 40, 3) := by decide +kernel
theorem dX2_tip_47 : decode cX2_tip 47 = .ok (.iload_n 2, 1) := by decide +kernel
theorem dX2_tip_48 : decode cX2_tip 48 = .ok (.iaload, 1) := by decide +kernel
theorem dX2_tip_49 : decode cX2_tip 49 = .ok (.aaload, 1) := by decide +kernel
theorem dX2_tip_50 : decode cX2_tip 50 = .ok (.invokevirtual 139, 3) := by decide +kernel
theorem dX2_tip_53 : decode cX2_tip 53 = .ok (.ifCond .eq 7, 3) := by decide +kernel
theorem dX2_tip_56 : decode cX2_tip 56 = .ok (.iconst 1, 1) := by decide +kernel
theorem dX2_tip_57 : decode cX2_tip 57 = .ok (.goto 4, 3) := by decide +kernel
theorem dX2_tip_60 : decode cX2_tip 60 = .ok (.iconst 0, 1) := by decide +kernel
theorem dX2_tip_61 : decode cX2_tip 61 = .ok (.istore 4, 2) := by decide +kernel
theorem dX2_tip_63 : decode cX2_tip 63 = .ok (.iload_n 3, 1) := by decide +kernel
theorem dX2_tip_64 : decode cX2_tip 64 = .ok (.ifCond .eq 26, 3) := by decide +kernel
theorem dX2_tip_67 : decode cX2_tip 67 = .ok (.iload 4, 2) := by decide +kernel
theorem dX2_tip_69 : decode cX2_tip 69 = .ok (.ifCond .eq 21, 3) := by decide +kernel
theorem dX2_tip_72 : decode cX2_tip 72 = .ok (.aload_n 0, 1) := by decide +kernel
theorem dX2_tip_73 : decode cX2_tip 73 = .ok (.aload_n 0, 1) := by decide +kernel
theorem dX2_tip_74 : decode cX2_tip 74 = .ok (.getfield 72, 3) := by decide +kernel
theorem dX2_tip_77 : decode cX2_tip 77 = .ok (.iconst 1, 1) := by decide +kernel
theorem dX2_tip_78 : decode cX2_tip 78 = .ok (.iload_n 1, 1) := by decide +kernel
theorem dX2_tip_79 : decode cX2_tip 79 = .ok (.ishl, 1) := by decide +kernel
theorem dX2_tip_80 : decode cX2_tip 80 = .ok (.ior, 1) := by decide +kernel
theorem dX2_tip_81 : decode cX2_tip 81 = .ok (.iconst 1, 1) := by decide +kernel
theorem dX2_tip_82 : decode cX2_tip 82 = .ok (.iload_n 2, 1) := by decide +kernel
theorem dX2_tip_83 : decode cX2_tip 83 = .ok (.ishl, 1) := by decide +kernel
theorem dX2_tip_84 : decode cX2_tip 84 = .ok (.iconst (-1), 1) := by decide +kernel
theorem dX2_tip_85 : decode cX2_tip 85 = .ok (.ixor, 1) := by decide +kernel
theorem dX2_tip_86 : decode cX2_tip 86 = .ok (.iand, 1) := by decide +kernel
theorem dX2_tip_87 : decode cX2_tip 87 = .ok (.putfield 72, 3) := by decide +kernel
theorem dX2_tip_90 : decode cX2_tip 90 = .ok (.return_, 1) := by decide +kernel
theorem dX2_dropChain_0 : decode cX2_dropChain 0 = .ok (.aload_n 0, 1) := by decide +kernel
theorem dX2_dropChain_1 : decode cX2_dropChain 1 = .ok (.dup, 1) := by decide +kernel
theorem dX2_dropChain_2 : decode cX2_dropChain 2 = .ok (.getfield 75, 3) := by decide +kernel
theorem dX2_dropChain_5 : decode cX2_dropChain 5 = .ok (.iconst 1, 1) := by decide +kernel
theorem dX2_dropChain_6 : decode cX2_dropChain 6 = .ok (.isub, 1) := by decide +kernel
theorem dX2_dropChain_7 : decode cX2_dropChain 7 = .ok (.putfield 75, 3) := by decide +kernel
theorem dX2_dropChain_10 : decode cX2_dropChain 10 = .ok (.iload_n 1, 1) := by decide +kernel
theorem dX2_dropChain_11 : decode cX2_dropChain 11 = .ok (.istore_n 2, 1) := by decide +kernel
theorem dX2_dropChain_12 : decode cX2_dropChain 12 = .ok (.iload_n 2, 1) := by decide +kernel
theorem dX2_dropChain_13 : decode cX2_dropChain 13 = .ok (.aload_n 0, 1) := by decide +kernel
theorem dX2_dropChain_14 : decode cX2_dropChain 14 = .ok (.getfield 75, 3) := by decide +kernel
theorem dX2_dropChain_17 : decode cX2_dropChain 17 = .ok (.if_icmp .ge 51, 3) := by decide +kernel
theorem dX2_dropChain_20 : decode cX2_dropChain 20 = .ok (.aload_n 0, 1) := by decide +kernel
theorem dX2_dropChain_21 : decode cX2_dropChain 21 = .ok (.getfield 46, 3) := by decide +kernel
theorem dX2_dropChain_24 : decode cX2_dropChain 24 = .ok (.iload_n 2, 1) := by decide +kernel
theorem dX2_dropChain_25 : decode cX2_dropChain 25 = .ok (.aload_n 0, 1) := by decide +kernel
theorem dX2_dropChain_26 : decode cX2_dropChain 26 = .ok (.getfield 46, 3) := by decide +kernel
theorem dX2_dropChain_29 : decode cX2_dropChain 29 = .ok (.iload_n 2, 1) := by decide +kernel
theorem dX2_dropChain_30 : decode cX2_dropChain 30 = .ok (.iconst 1, 1) := by decide +kernel
theorem dX2_dropChain_31 : decode cX2_dropChain 31 = .ok (.iadd, 1) := by decide +kernel
theorem dX2_dropChain_32 : decode cX2_dropChain 32 = .ok (.iaload, 1) := by decide +kernel
theorem dX2_dropChain_33 : decode cX2_dropChain 33 = .ok (.iastore, 1) := by decide +kernel
theorem dX2_dropChain_34 : decode cX2_dropChain 34 = .ok (.aload_n 0, 1) := by decide +kernel
theorem dX2_dropChain_35 : decode cX2_dropChain 35 = .ok (.getfield 49, 3) := by decide +kernel
theorem dX2_dropChain_38 : decode cX2_dropChain 38 = .ok (.iload_n 2, 1) := by decide +kernel
theorem dX2_dropChain_39 : decode cX2_dropChain 39 = .ok (.aload_n 0, 1) := by decide +kernel
theorem dX2_dropChain_40 : decode cX2_dropChain 40 = .ok (.getfield 49, 3) := by decide +kernel
theorem dX2_dropChain_43 : decode cX2_dropChain 43 = .ok (.iload_n 2, 1) := by decide +kernel
theorem dX2_dropChain_44 : decode cX2_dropChain 44 = .ok (.iconst 1, 1) := by decide +kernel
theorem dX2_dropChain_45 : decode cX2_dropChain 45 = .ok (.iadd, 1) := by decide +kernel
theorem dX2_dropChain_46 : decode cX2_dropChain 46 = .ok (.iaload, 1) := by decide +kernel
theorem dX2_dropChain_47 : decode cX2_dropChain 47 = .ok (.iastore, 1) := by decide +kernel
theorem dX2_dropChain_48 : decode cX2_dropChain 48 = .ok (.aload_n 0, 1) := by decide +kernel
theorem dX2_dropChain_49 : decode cX2_dropChain 49 = .ok (.getfield 52, 3) := by decide +kernel
theorem dX2_dropChain_52 : decode cX2_dropChain 52 = .ok (.iload_n 2, 1) := by decide +kernel
theorem dX2_dropChain_53 : decode cX2_dropChain 53 = .ok (.aload_n 0, 1) := by decide +kernel
theorem dX2_dropChain_54 : decode cX2_dropChain 54 = .ok (.getfield 52, 3) := by decide +kernel
theorem dX2_dropChain_57 : decode cX2_dropChain 57 = .ok (.iload_n 2, 1) := by decide +kernel
theorem dX2_dropChain_58 : decode cX2_dropChain 58 = .ok (.iconst 1, 1) := by decide +kernel
theorem dX2_dropChain_59 : decode cX2_dropChain 59 = .ok (.iadd, 1) := by decide +kernel
theorem dX2_dropChain_60 : decode cX2_dropChain 60 = .ok (.iaload, 1) := by decide +kernel
theorem dX2_dropChain_61 : decode cX2_dropChain 61 = .ok (.iastore, 1) := by decide +kernel
theorem dX2_dropChain_62 : decode cX2_dropChain 62 = .ok (.iinc 2 1, 3) := by decide +kernel
theorem dX2_dropChain_65 : decode cX2_dropChain 65 = .ok (.goto (-53), 3) := by decide +kernel
theorem dX2_dropChain_68 : decode cX2_dropChain 68 = .ok (.return_, 1) := by decide +kernel
theorem dX2_addStones_0 : decode cX2_addStones 0 = .ok (.iconst 0, 1) := by decide +kernel
theorem dX2_addStones_1 : decode cX2_addStones 1 = .ok (.istore_n 3, 1) := by decide +kernel
theorem dX2_addStones_2 : decode cX2_addStones 2 = .ok (.iload_n 3, 1) := by decide +kernel
theorem dX2_addStones_3 : decode cX2_addStones 3 = .ok (.aload_n 0, 1) := by decide +kernel
theorem dX2_addStones_4 : decode cX2_addStones 4 = .ok (.getfield 68, 3) := by decide +kernel
theorem dX2_addStones_7 : decode cX2_addStones 7 = .ok (.if_icmp .ge 28, 3) := by decide +kernel
theorem dX2_addStones_10 : decode cX2_addStones 10 = .ok (.iload_n 1, 1) := by decide +kernel
theorem dX2_addStones_11 : decode cX2_addStones 11 = .ok (.iload_n 3, 1) := by decide +kernel
theorem dX2_addStones_12 : decode cX2_addStones 12 = .ok (.ishr, 1) := by decide +kernel
theorem dX2_addStones_13 : decode cX2_addStones 13 = .ok (.iconst 1, 1) := by decide +kernel
theorem dX2_addStones_14 : decode cX2_addStones 14 = .ok (.iand, 1) := by decide +kernel
theorem dX2_addStones_15 : decode cX2_addStones 15 = .ok (.iconst 1, 1) := by decide +kernel
theorem dX2_addStones_16 : decode cX2_addStones 16 = .ok (.if_icmp .ne 13, 3) := by decide +kernel
theorem dX2_addStones_19 : decode cX2_addStones 19 = .ok (.aload_n 0, 1) := by decide +kernel
theorem dX2_addStones_20 : decode cX2_addStones 20 = .ok (.getfield 43, 3) := by decide +kernel
theorem dX2_addStones_23 : decode cX2_addStones 23 = .ok (.iload_n 3, 1) := by decide +kernel
theorem dX2_addStones_24 : decode cX2_addStones 24 = .ok (.dup2, 1) := by decide +kernel
theorem dX2_addStones_25 : decode cX2_addStones 25 = .ok (.iaload, 1) := by decide +kernel
theorem dX2_addStones_26 : decode cX2_addStones 26 = .ok (.iload_n 2, 1) := by decide +kernel
theorem dX2_addStones_27 : decode cX2_addStones 27 = .ok (.iadd, 1) := by decide +kernel
theorem dX2_addStones_28 : decode cX2_addStones 28 = .ok (.iastore, 1) := by decide +kernel
theorem dX2_addStones_29 : decode cX2_addStones 29 = .ok (.iinc 3 1, 3) := by decide +kernel
theorem dX2_addStones_32 : decode cX2_addStones 32 = .ok (.goto (-30), 3) := by decide +kernel
theorem dX2_addStones_35 : decode cX2_addStones 35 = .ok (.return_, 1) := by decide +kernel
theorem dX2_leaveOut_0 : decode cX2_leaveOut 0 = .ok (.aload_n 0, 1) := by decide +kernel
theorem dX2_leaveOut_1 : decode cX2_leaveOut 1 = .ok (.dup, 1) := by decide +kernel
theorem dX2_leaveOut_2 : decode cX2_leaveOut 2 = .ok (.getfield 78, 3) := by decide +kernel
theorem dX2_leaveOut_5 : decode cX2_leaveOut 5 = .ok (.iconst 1, 1) := by decide +kernel
theorem dX2_leaveOut_6 : decode cX2_leaveOut 6 = .ok (.isub, 1) := by decide +kernel
theorem dX2_leaveOut_7 : decode cX2_leaveOut 7 = .ok (.putfield 78, 3) := by decide +kernel
theorem dX2_leaveOut_10 : decode cX2_leaveOut 10 = .ok (.iload_n 1, 1) := by decide +kernel
theorem dX2_leaveOut_11 : decode cX2_leaveOut 11 = .ok (.istore_n 2, 1) := by decide +kernel
theorem dX2_leaveOut_12 : decode cX2_leaveOut 12 = .ok (.iload_n 2, 1) := by decide +kernel
theorem dX2_leaveOut_13 : decode cX2_leaveOut 13 = .ok (.aload_n 0, 1) := by decide +kernel
theorem dX2_leaveOut_14 : decode cX2_leaveOut 14 = .ok (.getfield 78, 3) := by decide +kernel
theorem dX2_leaveOut_17 : decode cX2_leaveOut 17 = .ok (.if_icmp .ge 37, 3) := by decide +kernel
theorem dX2_leaveOut_20 : decode cX2_leaveOut 20 = .ok (.aload_n 0, 1) := by decide +kernel
theorem dX2_leaveOut_21 : decode cX2_leaveOut 21 = .ok (.getfield 55, 3) := by decide +kernel
theorem dX2_leaveOut_24 : decode cX2_leaveOut 24 = .ok (.iload_n 2, 1) := by decide +kernel
theorem dX2_leaveOut_25 : decode cX2_leaveOut 25 = .ok (.aload_n 0, 1) := by decide +kernel
theorem dX2_leaveOut_26 : decode cX2_leaveOut 26 = .ok (.getfield 55, 3) := by decide +kernel
theorem dX2_leaveOut_29 : decode cX2_leaveOut 29 = .ok (.iload_n 2, 1) := by decide +kernel
theorem dX2_leaveOut_30 : decode cX2_leaveOut 30 = .ok (.iconst 1, 1) := by decide +kernel
theorem dX2_leaveOut_31 : decode cX2_leaveOut 31 = .ok (.iadd, 1) := by decide +kernel
theorem dX2_leaveOut_32 : decode cX2_leaveOut 32 = .ok (.iaload, 1) := by decide +kernel
theorem dX2_leaveOut_33 : decode cX2_leaveOut 33 = .ok (.iastore, 1) := by decide +kernel
theorem dX2_leaveOut_34 : decode cX2_leaveOut 34 = .ok (.aload_n 0, 1) := by decide +kernel
theorem dX2_leaveOut_35 : decode cX2_leaveOut 35 = .ok (.getfield 58, 3) := by decide +kernel
theorem dX2_leaveOut_38 : decode cX2_leaveOut 38 = .ok (.iload_n 2, 1) := by decide +kernel
theorem dX2_leaveOut_39 : decode cX2_leaveOut 39 = .ok (.aload_n 0, 1) := by decide +kernel
theorem dX2_leaveOut_40 : decode cX2_leaveOut 40 = .ok (.getfield 58, 3) := by decide +kernel
theorem dX2_leaveOut_43 : decode cX2_leaveOut 43 = .ok (.iload_n 2, 1) := by decide +kernel
theorem dX2_leaveOut_44 : decode cX2_leaveOut 44 = .ok (.iconst 1, 1) := by decide +kernel
theorem dX2_leaveOut_45 : decode cX2_leaveOut 45 = .ok (.iadd, 1) := by decide +kernel
theorem dX2_leaveOut_46 : decode cX2_leaveOut 46 = .ok (.iaload, 1) := by decide +kernel
theorem dX2_leaveOut_47 : decode cX2_leaveOut 47 = .ok (.iastore, 1) := by decide +kernel
theorem dX2_leaveOut_48 : decode cX2_leaveOut 48 = .ok (.iinc 2 1, 3) := by decide +kernel
theorem dX2_leaveOut_51 : decode cX2_leaveOut 51 = .ok (.goto (-39), 3) := by decide +kernel
theorem dX2_leaveOut_54 : decode cX2_leaveOut 54 = .ok (.return_, 1) := by decide +kernel
theorem dX2_leaveAlone_0 : decode cX2_leaveAlone 0 = .ok (.aload_n 0, 1) := by decide +kernel
theorem dX2_leaveAlone_1 : decode cX2_leaveAlone 1 = .ok (.getfield 55, 3) := by decide +kernel
theorem dX2_leaveAlone_4 : decode cX2_leaveAlone 4 = .ok (.iconst 0, 1) := by decide +kernel
theorem dX2_leaveAlone_5 : decode cX2_leaveAlone 5 = .ok (.aload_n 0, 1) := by decide +kernel
theorem dX2_leaveAlone_6 : decode cX2_leaveAlone 6 = .ok (.getfield 55, 3) := by decide +kernel
theorem dX2_leaveAlone_9 : decode cX2_leaveAlone 9 = .ok (.iload_n 1, 1) := by decide +kernel
theorem dX2_leaveAlone_10 : decode cX2_leaveAlone 10 = .ok (.iaload, 1) := by decide +kernel
theorem dX2_leaveAlone_11 : decode cX2_leaveAlone 11 = .ok (.iastore, 1) := by decide +kernel
theorem dX2_leaveAlone_12 : decode cX2_leaveAlone 12 = .ok (.aload_n 0, 1) := by decide +kernel
theorem dX2_leaveAlone_13 : decode cX2_leaveAlone 13 = .ok (.getfield 58, 3) := by decide +kernel
theorem dX2_leaveAlone_16 : decode cX2_leaveAlone 16 = .ok (.iconst 0, 1) := by decide +kernel
theorem dX2_leaveAlone_17 : decode cX2_leaveAlone 17 = .ok (.aload_n 0, 1) := by decide +kernel
theorem dX2_leaveAlone_18 : decode cX2_leaveAlone 18 = .ok (.getfield 58, 3) := by decide +kernel
theorem dX2_leaveAlone_21 : decode cX2_leaveAlone 21 = .ok (.iload_n 1, 1) := by decide +kernel
theorem dX2_leaveAlone_22 : decode cX2_leaveAlone 22 = .ok (.iaload, 1) := by decide +kernel
theorem dX2_leaveAlone_23 : decode cX2_leaveAlone 23 = .ok (.iastore, 1) := by decide +kernel
theorem dX2_leaveAlone_24 : decode cX2_leaveAlone 24 = .ok (.aload_n 0, 1) := by decide +kernel
theorem dX2_leaveAlone_25 : decode cX2_leaveAlone 25 = .ok (.iconst 1, 1) := by decide +kernel
theorem dX2_leaveAlone_26 : decode cX2_leaveAlone 26 = .ok (.putfield 78, 3) := by decide +kernel
theorem dX2_leaveAlone_29 : decode cX2_leaveAlone 29 = .ok (.return_, 1) := by decide +kernel
theorem dX2_packed_0 : decode cX2_packed 0 = .ok (.aload_n 0, 1) := by decide +kernel
theorem dX2_packed_1 : decode cX2_packed 1 = .ok (.getfield 72, 3) := by decide +kernel
theorem dX2_packed_4 : decode cX2_packed 4 = .ok (.istore_n 1, 1) := by decide +kernel
theorem dX2_packed_5 : decode cX2_packed 5 = .ok (.iconst 0, 1) := by decide +kernel
theorem dX2_packed_6 : decode cX2_packed 6 = .ok (.istore_n 2, 1) := by decide +kernel
theorem dX2_packed_7 : decode cX2_packed 7 = .ok (.iload_n 2, 1) := by decide +kernel
theorem dX2_packed_8 : decode cX2_packed 8 = .ok (.iconst 3, 1) := by decide +kernel
theorem dX2_packed_9 : decode cX2_packed 9 = .ok (.if_icmp .ge 33, 3) := by decide +kernel
theorem dX2_packed_12 : decode cX2_packed 12 = .ok (.bipush 10, 2) := by decide +kernel
theorem dX2_packed_14 : decode cX2_packed 14 = .ok (.iload_n 1, 1) := by decide +kernel
theorem dX2_packed_15 : decode cX2_packed 15 = .ok (.imul, 1) := by decide +kernel
theorem dX2_packed_16 : decode cX2_packed 16 = .ok (.iload_n 2, 1) := by decide +kernel
theorem dX2_packed_17 : decode cX2_packed 17 = .ok (.aload_n 0, 1) := by decide +kernel
theorem dX2_packed_18 : decode cX2_packed 18 = .ok (.getfield 78, 3) := by decide +kernel
theorem dX2_packed_21 : decode cX2_packed 21 = .ok (.if_icmp .ge 12, 3) := by decide +kernel
theorem dX2_packed_24 : decode cX2_packed 24 = .ok (.aload_n 0, 1) := by decide +kernel
theorem dX2_packed_25 : decode cX2_packed 25 = .ok (.getfield 58, 3) := by decide +kernel
theorem dX2_packed_28 : decode cX2_packed 28 = .ok (.iload_n 2, 1) := by decide +kernel
theorem dX2_packed_29 : decode cX2_packed 29 = .ok (.iaload, 1) := by decide +kernel
theorem dX2_packed_30 : decode cX2_packed 30 = .ok (.goto 4, 3) := by decide +kernel
theorem dX2_packed_33 : decode cX2_packed 33 = .ok (.iconst 0, 1) := by decide +kernel
theorem dX2_packed_34 : decode cX2_packed 34 = .ok (.iadd, 1) := by decide +kernel
theorem dX2_packed_35 : decode cX2_packed 35 = .ok (.istore_n 1, 1) := by decide +kernel
theorem dX2_packed_36 : decode cX2_packed 36 = .ok (.iinc 2 1, 3) := by decide +kernel
theorem dX2_packed_39 : decode cX2_packed 39 = .ok (.goto (-32), 3) := by decide +kernel
theorem dX2_packed_42 : decode cX2_packed 42 = .ok (.iload_n 1, 1) := by decide +kernel
theorem dX2_packed_43 : decode cX2_packed 43 = .ok (.ireturn, 1) := by decide +kernel
theorem dX2_unpack_0 : decode cX2_unpack 0 = .ok (.iload_n 1, 1) := by decide +kernel
theorem dX2_unpack_1 : decode cX2_unpack 1 = .ok (.istore_n 2, 1) := by decide +kernel
theorem dX2_unpack_2 : decode cX2_unpack 2 = .ok (.iconst 2, 1) := by decide +kernel
theorem dX2_unpack_3 : decode cX2_unpack 3 = .ok (.istore_n 3, 1) := by decide +kernel
theorem dX2_unpack_4 : decode cX2_unpack 4 = .ok (.iload_n 3, 1) := by decide +kernel
theorem dX2_unpack_5 : decode cX2_unpack 5 = .ok (.ifCond .lt 24, 3) := by decide +kernel
theorem dX2_unpack_8 : decode cX2_unpack 8 = .ok (.aload_n 0, 1) := by decide +kernel
theorem dX2_unpack_9 : decode cX2_unpack 9 = .ok (.getfield 58, 3) := by decide +kernel
theorem dX2_unpack_12 : decode cX2_unpack 12 = .ok (.iload_n 3, 1) := by decide +kernel
theorem dX2_unpack_13 : decode cX2_unpack 13 = .ok (.iload_n 2, 1) := by decide +kernel
theorem dX2_unpack_14 : decode cX2_unpack 14 = .ok (.bipush 10, 2) := by decide +kernel
theorem dX2_unpack_16 : decode cX2_unpack 16 = .ok (.irem, 1) := by decide +kernel
theorem dX2_unpack_17 : decode cX2_unpack 17 = .ok (.iastore, 1) := by decide +kernel
theorem dX2_unpack_18 : decode cX2_unpack 18 = .ok (.iload_n 2, 1) := by decide +kernel
theorem dX2_unpack_19 : decode cX2_unpack 19 = .ok (.bipush 10, 2) := by decide +kernel
theorem dX2_unpack_21 : decode cX2_unpack 21 = .ok (.idiv, 1) := by decide +kernel
theorem dX2_unpack_22 : decode cX2_unpack 22 = .ok (.istore_n 2, 1) := by decide +kernel
theorem dX2_unpack_23 : decode cX2_unpack 23 = .ok (.iinc 3 (-1), 3) := by decide +kernel
theorem dX2_unpack_26 : decode cX2_unpack 26 = .ok (.goto (-22), 3) := by decide +kernel
theorem dX2_unpack_29 : decode cX2_unpack 29 = .ok (.aload_n 0, 1) := by decide +kernel
theorem dX2_unpack_30 : decode cX2_unpack 30 = .ok (.iload_n 2, 1) := by decide +kernel
theorem dX2_unpack_31 : decode cX2_unpack 31 = .ok (.putfield 72, 3) := by decide +kernel
theorem dX2_unpack_34 : decode cX2_unpack 34 = .ok (.return_, 1) := by decide +kernel
theorem dX2_digestOn_0 : decode cX2_digestOn 0 = .ok (.lload_n 1, 1) := by decide +kernel
theorem dX2_digestOn_1 : decode cX2_digestOn 1 = .ok (.lstore_n 3, 1) := by decide +kernel
theorem dX2_digestOn_2 : decode cX2_digestOn 2 = .ok (.iconst 0, 1) := by decide +kernel
theorem dX2_digestOn_3 : decode cX2_digestOn 3 = .ok (.istore 5, 2) := by decide +kernel
theorem dX2_digestOn_5 : decode cX2_digestOn 5 = .ok (.iload 5, 2) := by decide +kernel
theorem dX2_digestOn_7 : decode cX2_digestOn 7 = .ok (.aload_n 0, 1) := by decide +kernel
theorem dX2_digestOn_8 : decode cX2_digestOn 8 = .ok (.getfield 68, 3) := by decide +kernel
theorem dX2_digestOn_11 : decode cX2_digestOn 11 = .ok (.if_icmp .ge 69, 3) := by decide +kernel
theorem dX2_digestOn_14 : decode cX2_digestOn 14 = .ok (.ldc2_w 142, 3) := by decide +kernel
theorem dX2_digestOn_17 : decode cX2_digestOn 17 = .ok (.lload_n 3, 1) := by decide +kernel
theorem dX2_digestOn_18 : decode cX2_digestOn 18 = .ok (.lmul, 1) := by decide +kernel
theorem dX2_digestOn_19 : decode cX2_digestOn 19 = .ok (.aload_n 0, 1) := by decide +kernel
theorem dX2_digestOn_20 : decode cX2_digestOn 20 = .ok (.getfield 33, 3) := by decide +kernel
theorem dX2_digestOn_23 : decode cX2_digestOn 23 = .ok (.iload 5, 2) := by decide +kernel
theorem dX2_digestOn_25 : decode cX2_digestOn 25 = .ok (.iaload, 1) := by decide +kernel
theorem dX2_digestOn_26 : decode cX2_digestOn 26 = .ok (.i2l, 1) := by decide +kernel
theorem dX2_digestOn_27 : decode cX2_digestOn 27 = .ok (.ladd, 1) := by decide +kernel
theorem dX2_digestOn_28 : decode cX2_digestOn 28 = .ok (.lstore_n 3, 1) := by decide +kernel
theorem dX2_digestOn_29 : decode cX2_digestOn 29 = .ok (.ldc2_w 142, 3) := by decide +kernel
theorem dX2_digestOn_32 : decode cX2_digestOn 32 = .ok (.lload_n 3, 1) := by decide +kernel
theorem dX2_digestOn_33 : decode cX2_digestOn 33 = .ok (.lmul, 1) := by decide +kernel
theorem dX2_digestOn_34 : decode cX2_digestOn 34 = .ok (.aload_n 0, 1) := by decide +kernel
theorem dX2_digestOn_35 : decode cX2_digestOn 35 = .ok (.getfield 37, 3) := by decide +kernel
theorem dX2_digestOn_38 : decode cX2_digestOn 38 = .ok (.iload 5, 2) := by decide +kernel
theorem dX2_digestOn_40 : decode cX2_digestOn 40 = .ok (.iaload, 1) := by decide +kernel
theorem dX2_digestOn_41 : decode cX2_digestOn 41 = .ok (.i2l, 1) := by decide +kernel
theorem dX2_digestOn_42 : decode cX2_digestOn 42 = .ok (.ladd, 1) := by decide +kernel
theorem dX2_digestOn_43 : decode cX2_digestOn 43 = .ok (.lstore_n 3, 1) := by decide +kernel
theorem dX2_digestOn_44 : decode cX2_digestOn 44 = .ok (.ldc2_w 142, 3) := by decide +kernel
theorem dX2_digestOn_47 : decode cX2_digestOn 47 = .ok (.lload_n 3, 1) := by decide +kernel
theorem dX2_digestOn_48 : decode cX2_digestOn 48 = .ok (.lmul, 1) := by decide +kernel
theorem dX2_digestOn_49 : decode cX2_digestOn 49 = .ok (.aload_n 0, 1) := by decide +kernel
theorem dX2_digestOn_50 : decode cX2_digestOn 50 = .ok (.getfield 40, 3) := by decide +kernel
theorem dX2_digestOn_53 : decode cX2_digestOn 53 = .ok (.iload 5, 2) := by decide +kernel
theorem dX2_digestOn_55 : decode cX2_digestOn 55 = .ok (.iaload, 1) := by decide +kernel
theorem dX2_digestOn_56 : decode cX2_digestOn 56 = .ok (.i2l, 1) := by decide +kernel
theorem dX2_digestOn_57 : decode cX2_digestOn 57 = .ok (.ladd, 1) := by decide +kernel
theorem dX2_digestOn_58 : decode cX2_digestOn 58 = .ok (.lstore_n 3, 1) := by decide +kernel
theorem dX2_digestOn_59 : decode cX2_digestOn 59 = .ok (.ldc2_w 142, 3) := by decide +kernel
theorem dX2_digestOn_62 : decode cX2_digestOn 62 = .ok (.lload_n 3, 1) := by decide +kernel
theorem dX2_digestOn_63 : decode cX2_digestOn 63 = .ok (.lmul, 1) := by decide +kernel
theorem dX2_digestOn_64 : decode cX2_digestOn 64 = .ok (.aload_n 0, 1) := by decide +kernel
theorem dX2_digestOn_65 : decode cX2_digestOn 65 = .ok (.getfield 43, 3) := by decide +kernel
theorem dX2_digestOn_68 : decode cX2_digestOn 68 = .ok (.iload 5, 2) := by decide +kernel
theorem dX2_digestOn_70 : decode cX2_digestOn 70 = .ok (.iaload, 1) := by decide +kernel
theorem dX2_digestOn_71 : decode cX2_digestOn 71 = .ok (.i2l, 1) := by decide +kernel
theorem dX2_digestOn_72 : decode cX2_digestOn 72 = .ok (.ladd, 1) := by decide +kernel
theorem dX2_digestOn_73 : decode cX2_digestOn 73 = .ok (.lstore_n 3, 1) := by decide +kernel
theorem dX2_digestOn_74 : decode cX2_digestOn 74 = .ok (.iinc 5 1, 3) := by decide +kernel
theorem dX2_digestOn_77 : decode cX2_digestOn 77 = .ok (.goto (-72), 3) := by decide +kernel
theorem dX2_digestOn_80 : decode cX2_digestOn 80 = .ok (.ldc2_w 142, 3) := by decide +kernel
theorem dX2_digestOn_83 : decode cX2_digestOn 83 = .ok (.lload_n 3, 1) := by decide +kernel
theorem dX2_digestOn_84 : decode cX2_digestOn 84 = .ok (.lmul, 1) := by decide +kernel
theorem dX2_digestOn_85 : decode cX2_digestOn 85 = .ok (.aload_n 0, 1) := by decide +kernel
theorem dX2_digestOn_86 : decode cX2_digestOn 86 = .ok (.getfield 72, 3) := by decide +kernel
theorem dX2_digestOn_89 : decode cX2_digestOn 89 = .ok (.i2l, 1) := by decide +kernel
theorem dX2_digestOn_90 : decode cX2_digestOn 90 = .ok (.ladd, 1) := by decide +kernel
theorem dX2_digestOn_91 : decode cX2_digestOn 91 = .ok (.lstore_n 3, 1) := by decide +kernel
theorem dX2_digestOn_92 : decode cX2_digestOn 92 = .ok (.iconst 0, 1) := by decide +kernel
theorem dX2_digestOn_93 : decode cX2_digestOn 93 = .ok (.istore 5, 2) := by decide +kernel
theorem dX2_digestOn_95 : decode cX2_digestOn 95 = .ok (.iload 5, 2) := by decide +kernel
theorem dX2_digestOn_97 : decode cX2_digestOn 97 = .ok (.aload_n 0, 1) := by decide +kernel
theorem dX2_digestOn_98 : decode cX2_digestOn 98 = .ok (.getfield 75, 3) := by decide +kernel
theorem dX2_digestOn_101 : decode cX2_digestOn 101 = .ok (.if_icmp .ge 54, 3) := by decide +kernel
theorem dX2_digestOn_104 : decode cX2_digestOn 104 = .ok (.ldc2_w 142, 3) := by decide +kernel
theorem dX2_digestOn_107 : decode cX2_digestOn 107 = .ok (.lload_n 3, 1) := by decide +kernel
theorem dX2_digestOn_108 : decode cX2_digestOn 108 = .ok (.lmul, 1) := by decide +kernel
theorem dX2_digestOn_109 : decode cX2_digestOn 109 = .ok (.aload_n 0, 1) := by decide +kernel
theorem dX2_digestOn_110 : decode cX2_digestOn 110 = .ok (.getfield 46, 3) := by decide +kernel
theorem dX2_digestOn_113 : decode cX2_digestOn 113 = .ok (.iload 5, 2) := by decide +kernel
theorem dX2_digestOn_115 : decode cX2_digestOn 115 = .ok (.iaload, 1) := by decide +kernel
theorem dX2_digestOn_116 : decode cX2_digestOn 116 = .ok (.i2l, 1) := by decide +kernel
theorem dX2_digestOn_117 : decode cX2_digestOn 117 = .ok (.ladd, 1) := by decide +kernel
theorem dX2_digestOn_118 : decode cX2_digestOn 118 = .ok (.lstore_n 3, 1) := by decide +kernel
theorem dX2_digestOn_119 : decode cX2_digestOn 119 = .ok (.ldc2_w 142, 3) := by decide +kernel
theorem dX2_digestOn_122 : decode cX2_digestOn 122 = .ok (.lload_n 3, 1) := by decide +kernel
theorem dX2_digestOn_123 : decode cX2_digestOn 123 = .ok (.lmul, 1) := by decide +kernel
theorem dX2_digestOn_124 : decode cX2_digestOn 124 = .ok (.aload_n 0, 1) := by decide +kernel
theorem dX2_digestOn_125 : decode cX2_digestOn 125 = .ok (.getfield 49, 3) := by decide +kernel
theorem dX2_digestOn_128 : decode cX2_digestOn 128 = .ok (.iload 5, 2) := by decide +kernel
theorem dX2_digestOn_130 : decode cX2_digestOn 130 = .ok (.iaload, 1) := by decide +kernel
theorem dX2_digestOn_131 : decode cX2_digestOn 131 = .ok (.i2l, 1) := by decide +kernel
theorem dX2_digestOn_132 : decode cX2_digestOn 132 = .ok (.ladd, 1) := by decide +kernel
theorem dX2_digestOn_133 : decode cX2_digestOn 133 = .ok (.lstore_n 3, 1) := by decide +kernel
theorem dX2_digestOn_134 : decode cX2_digestOn 134 = .ok (.ldc2_w 142, 3) := by decide +kernel
theorem dX2_digestOn_137 : decode cX2_digestOn 137 = .ok (.lload_n 3, 1) := by decide +kernel
theorem dX2_digestOn_138 : decode cX2_digestOn 138 = .ok (.lmul, 1) := by decide +kernel
theorem dX2_digestOn_139 : decode cX2_digestOn 139 = .ok (.aload_n 0, 1) := by decide +kernel
theorem dX2_digestOn_140 : decode cX2_digestOn 140 = .ok (.getfield 52, 3) := by decide +kernel
theorem dX2_digestOn_143 : decode cX2_digestOn 143 = .ok (.iload 5, 2) := by decide +kernel
theorem dX2_digestOn_145 : decode cX2_digestOn 145 = .ok (.iaload, 1) := by decide +kernel
theorem dX2_digestOn_146 : decode cX2_digestOn 146 = .ok (.i2l, 1) := by decide +kernel
theorem dX2_digestOn_147 : decode cX2_digestOn 147 = .ok (.ladd, 1) := by decide +kernel
theorem dX2_digestOn_148 : decode cX2_digestOn 148 = .ok (.lstore_n 3, 1) := by decide +kernel
theorem dX2_digestOn_149 : decode cX2_digestOn 149 = .ok (.iinc 5 1, 3) := by decide +kernel
theorem dX2_digestOn_152 : decode cX2_digestOn 152 = .ok (.goto (-57), 3) := by decide +kernel
theorem dX2_digestOn_155 : decode cX2_digestOn 155 = .ok (.iconst 0, 1) := by decide +kernel
theorem dX2_digestOn_156 : decode cX2_digestOn 156 = .ok (.istore 5, 2) := by decide +kernel
theorem dX2_digestOn_158 : decode cX2_digestOn 158 = .ok (.iload 5, 2) := by decide +kernel
theorem dX2_digestOn_160 : decode cX2_digestOn 160 = .ok (.aload_n 0, 1) := by decide +kernel
theorem dX2_digestOn_161 : decode cX2_digestOn 161 = .ok (.getfield 78, 3) := by decide +kernel
theorem dX2_digestOn_164 : decode cX2_digestOn 164 = .ok (.if_icmp .ge 39, 3) := by decide +kernel
theorem dX2_digestOn_167 : decode cX2_digestOn 167 = .ok (.ldc2_w 142, 3) := by decide +kernel
theorem dX2_digestOn_170 : decode cX2_digestOn 170 = .ok (.lload_n 3, 1) := by decide +kernel
theorem dX2_digestOn_171 : decode cX2_digestOn 171 = .ok (.lmul, 1) := by decide +kernel
theorem dX2_digestOn_172 : decode cX2_digestOn 172 = .ok (.aload_n 0, 1) := by decide +kernel
theorem dX2_digestOn_173 : decode cX2_digestOn 173 = .ok (.getfield 55, 3) := by decide +kernel
theorem dX2_digestOn_176 : decode cX2_digestOn 176 = .ok (.iload 5, 2) := by decide +kernel
theorem dX2_digestOn_178 : decode cX2_digestOn 178 = .ok (.iaload, 1) := by decide +kernel
theorem dX2_digestOn_179 : decode cX2_digestOn 179 = .ok (.i2l, 1) := by decide +kernel
theorem dX2_digestOn_180 : decode cX2_digestOn 180 = .ok (.ladd, 1) := by decide +kernel
theorem dX2_digestOn_181 : decode cX2_digestOn 181 = .ok (.lstore_n 3, 1) := by decide +kernel
theorem dX2_digestOn_182 : decode cX2_digestOn 182 = .ok (.ldc2_w 142, 3) := by decide +kernel
theorem dX2_digestOn_185 : decode cX2_digestOn 185 = .ok (.lload_n 3, 1) := by decide +kernel
theorem dX2_digestOn_186 : decode cX2_digestOn 186 = .ok (.lmul, 1) := by decide +kernel
theorem dX2_digestOn_187 : decode cX2_digestOn 187 = .ok (.aload_n 0, 1) := by decide +kernel
theorem dX2_digestOn_188 : decode cX2_digestOn 188 = .ok (.getfield 58, 3) := by decide +kernel
theorem dX2_digestOn_191 : decode cX2_digestOn 191 = .ok (.iload 5, 2) := by decide +kernel
theorem dX2_digestOn_193 : decode cX2_digestOn 193 = .ok (.iaload, 1) := by decide +kernel
theorem dX2_digestOn_194 : decode cX2_digestOn 194 = .ok (.i2l, 1) := by decide +kernel
theorem dX2_digestOn_195 : decode cX2_digestOn 195 = .ok (.ladd, 1) := by decide +kernel
theorem dX2_digestOn_196 : decode cX2_digestOn 196 = .ok (.lstore_n 3, 1) := by decide +kernel
theorem dX2_digestOn_197 : decode cX2_digestOn 197 = .ok (.iinc 5 1, 3) := by decide +kernel
theorem dX2_digestOn_200 : decode cX2_digestOn 200 = .ok (.goto (-42), 3) := by decide +kernel
theorem dX2_digestOn_203 : decode cX2_digestOn 203 = .ok (.lload_n 3, 1) := by decide +kernel
theorem dX2_digestOn_204 : decode cX2_digestOn 204 = .ok (.lreturn, 1) := by decide +kernel
theorem dX3_init_0 : decode cX3_init 0 = .ok (.aload_n 0, 1) := by decide +kernel
theorem dX3_init_1 : decode cX3_init 1 = .ok (.invokespecial 1, 3) := by decide +kernel
theorem dX3_init_4 : decode cX3_init 4 = .ok (.return_, 1) := by decide +kernel
theorem dX3_loadBy_0 : decode cX3_loadBy 0 = .ok (.aload_n 0, 1) := by decide +kernel
theorem dX3_loadBy_1 : decode cX3_loadBy 1 = .ok (.iload_n 1, 1) := by decide +kernel
theorem dX3_loadBy_2 : decode cX3_loadBy 2 = .ok (.invokespecial 7, 3) := by decide +kernel
theorem dX3_loadBy_5 : decode cX3_loadBy 5 = .ok (.istore_n 2, 1) := by decide +kernel
theorem dX3_loadBy_6 : decode cX3_loadBy 6 = .ok (.iload_n 2, 1) := by decide +kernel
theorem dX3_loadBy_7 : decode cX3_loadBy 7 = .ok (.ifCond .le 9, 3) := by decide +kernel
theorem dX3_loadBy_10 : decode cX3_loadBy 10 = .ok (.iload_n 2, 1) := by decide +kernel
theorem dX3_loadBy_11 : decode cX3_loadBy 11 = .ok (.iconst 1, 1) := by decide +kernel
theorem dX3_loadBy_12 : decode cX3_loadBy 12 = .ok (.iadd, 1) := by decide +kernel
theorem dX3_loadBy_13 : decode cX3_loadBy 13 = .ok (.goto 4, 3) := by decide +kernel
theorem dX3_loadBy_16 : decode cX3_loadBy 16 = .ok (.iload_n 2, 1) := by decide +kernel
theorem dX3_loadBy_17 : decode cX3_loadBy 17 = .ok (.ireturn, 1) := by decide +kernel
theorem dX4_init_0 : decode cX4_init 0 = .ok (.aload_n 0, 1) := by decide +kernel
theorem dX4_init_1 : decode cX4_init 1 = .ok (.invokespecial 1, 3) := by decide +kernel
theorem dX4_init_4 : decode cX4_init 4 = .ok (.return_, 1) := by decide +kernel
theorem dX4_mayFall_0 : decode cX4_mayFall 0 = .ok (.iconst 0, 1) := by decide +kernel
theorem dX4_mayFall_1 : decode cX4_mayFall 1 = .ok (.ireturn, 1) := by decide +kernel
theorem dX5_init_0 : decode cX5_init 0 = .ok (.aload_n 0, 1) := by decide +kernel
theorem dX5_init_1 : decode cX5_init 1 = .ok (.invokespecial 1, 3) := by decide +kernel
theorem dX5_init_4 : decode cX5_init 4 = .ok (.return_, 1) := by decide +kernel
theorem dX5_mayRise_0 : decode cX5_mayRise 0 = .ok (.iconst 0, 1) := by decide +kernel
theorem dX5_mayRise_1 : decode cX5_mayRise 1 = .ok (.ireturn, 1) := by decide +kernel
theorem dX6_init_0 : decode cX6_init 0 = .ok (.aload_n 0, 1) := by decide +kernel
theorem dX6_init_1 : decode cX6_init 1 = .ok (.invokespecial 3, 3) := by decide +kernel
theorem dX6_init_4 : decode cX6_init 4 = .ok (.aload_n 0, 1) := by decide +kernel
theorem dX6_init_5 : decode cX6_init 5 = .ok (.bipush 16, 2) := by decide +kernel
theorem dX6_init_7 : decode cX6_init 7 = .ok (.newarray .int, 2) := by decide +kernel
theorem dX6_init_9 : decode cX6_init 9 = .ok (.putfield 9, 3) := by decide +kernel
theorem dX6_init_12 : decode cX6_init 12 = .ok (.return_, 1) := by decide +kernel
theorem dX6_push_0 : decode cX6_push 0 = .ok (.aload_n 0, 1) := by decide +kernel
theorem dX6_push_1 : decode cX6_push 1 = .ok (.getfield 15, 3) := by decide +kernel
theorem dX6_push_4 : decode cX6_push 4 = .ok (.bipush 16, 2) := by decide +kernel
theorem dX6_push_6 : decode cX6_push 6 = .ok (.if_icmp .ne 28, 3) := by decide +kernel
theorem dX6_push_9 : decode cX6_push 9 = .ok (.aload_n 0, 1) := by decide +kernel
theorem dX6_push_10 : decode cX6_push 10 = .ok (.getfield 9, 3) := by decide +kernel
theorem dX6_push_13 : decode cX6_push 13 = .ok (.iconst 1, 1) := by decide +kernel
theorem dX6_push_14 : decode cX6_push 14 = .ok (.aload_n 0, 1) := by decide +kernel
theorem dX6_push_15 : decode cX6_push 15 = .ok (.getfield 9, 3) := by decide +kernel
theorem dX6_push_18 : decode cX6_push 18 = .ok (.iconst 0, 1) := by decide +kernel
theorem dX6_push_19 : decode cX6_push 19 = .ok (.bipush 15, 2) := by decide +kernel
theorem dX6_push_21 : decode cX6_push 21 = .ok (.invokestatic 19, 3) := by decide +kernel
theorem dX6_push_24 : decode cX6_push 24 = .ok (.aload_n 0, 1) := by decide +kernel
theorem dX6_push_25 : decode cX6_push 25 = .ok (.dup, 1) := by decide +kernel
theorem dX6_push_26 : decode cX6_push 26 = .ok (.getfield 15, 3) := by decide +kernel
theorem dX6_push_29 : decode cX6_push 29 = .ok (.iconst 1, 1) := by decide +kernel
theorem dX6_push_30 : decode cX6_push 30 = .ok (.isub, 1) := by decide +kernel
theorem dX6_push_31 : decode cX6_push 31 = .ok (.putfield 15, 3) := by decide +kernel
theorem dX6_push_34 : decode cX6_push 34 = .ok (.aload_n 0, 1) := by decide +kernel
theorem dX6_push_35 : decode cX6_push 35 = .ok (.getfield 9, 3) := by decide +kernel
theorem dX6_push_38 : decode cX6_push 38 = .ok (.aload_n 0, 1) := by decide +kernel
theorem dX6_push_39 : decode cX6_push 39 = .ok (.getfield 15, 3) := by decide +kernel
theorem dX6_push_42 : decode cX6_push 42 = .ok (.iload_n 1, 1) := by decide +kernel
theorem dX6_push_43 : decode cX6_push 43 = .ok (.iastore, 1) := by decide +kernel
theorem dX6_push_44 : decode cX6_push 44 = .ok (.aload_n 0, 1) := by decide +kernel
theorem dX6_push_45 : decode cX6_push 45 = .ok (.dup, 1) := by decide +kernel
theorem dX6_push_46 : decode cX6_push 46 = .ok (.getfield 15, 3) := by decide +kernel
theorem dX6_push_49 : decode cX6_push 49 = .ok (.iconst 1, 1) := by decide +kernel
theorem dX6_push_50 : decode cX6_push 50 = .ok (.iadd, 1) := by decide +kernel
theorem dX6_push_51 : decode cX6_push 51 = .ok (.putfield 15, 3) := by decide +kernel
theorem dX6_push_54 : decode cX6_push 54 = .ok (.return_, 1) := by decide +kernel
theorem dX6_pop_0 : decode cX6_pop 0 = .ok (.aload_n 0, 1) := by decide +kernel
theorem dX6_pop_1 : decode cX6_pop 1 = .ok (.getfield 15, 3) := by decide +kernel
theorem dX6_pop_4 : decode cX6_pop 4 = .ok (.ifCond .ne 5, 3) := by decide +kernel
theorem dX6_pop_7 : decode cX6_pop 7 = .ok (.iconst (-1), 1) := by decide +kernel
theorem dX6_pop_8 : decode cX6_pop 8 = .ok (.ireturn, 1) := by decide +kernel
theorem dX6_pop_9 : decode cX6_pop 9 = .ok (.aload_n 0, 1) := by decide +kernel
theorem dX6_pop_10 : decode cX6_pop 10 = .ok (.dup, 1) := by decide +kernel
theorem dX6_pop_11 : decode cX6_pop 11 = .ok (.getfield 15, 3) := by decide +kernel
theorem dX6_pop_14 : decode cX6_pop 14 = .ok (.iconst 1, 1) := by decide +kernel
theorem dX6_pop_15 : decode cX6_pop 15 = .ok (.isub, 1) := by decide +kernel
theorem dX6_pop_16 : decode cX6_pop 16 = .ok (.putfield 15, 3) := by decide +kernel
theorem dX6_pop_19 : decode cX6_pop 19 = .ok (.aload_n 0, 1) := by decide +kernel
theorem dX6_pop_20 : decode cX6_pop 20 = .ok (.getfield 9, 3) := by decide +kernel
theorem dX6_pop_23 : decode cX6_pop 23 = .ok (.aload_n 0, 1) := by decide +kernel
theorem dX6_pop_24 : decode cX6_pop 24 = .ok (.getfield 15, 3) := by decide +kernel
theorem dX6_pop_27 : decode cX6_pop 27 = .ok (.iaload, 1) := by decide +kernel
theorem dX6_pop_28 : decode cX6_pop 28 = .ok (.ireturn, 1) := by decide +kernel
theorem dX6_forget_0 : decode cX6_forget 0 = .ok (.aload_n 0, 1) := by decide +kernel
theorem dX6_forget_1 : decode cX6_forget 1 = .ok (.iconst 0, 1) := by decide +kernel
theorem dX6_forget_2 : decode cX6_forget 2 = .ok (.putfield 15, 3) := by decide +kernel
theorem dX6_forget_5 : decode cX6_forget 5 = .ok (.return_, 1) := by decide +kernel
theorem dX6_take_0 : decode cX6_take 0 = .ok (.aload_n 0, 1) := by decide +kernel
theorem dX6_take_1 : decode cX6_take 1 = .ok (.aload_n 1, 1) := by decide +kernel
theorem dX6_take_2 : decode cX6_take 2 = .ok (.getfield 15, 3) := by decide +kernel
theorem dX6_take_5 : decode cX6_take 5 = .ok (.putfield 15, 3) := by decide +kernel
theorem dX6_take_8 : decode cX6_take 8 = .ok (.aload_n 1, 1) := by decide +kernel
theorem dX6_take_9 : decode cX6_take 9 = .ok (.getfield 9, 3) := by decide +kernel
theorem dX6_take_12 : decode cX6_take 12 = .ok (.iconst 0, 1) := by decide +kernel
theorem dX6_take_13 : decode cX6_take 13 = .ok (.aload_n 0, 1) := by decide +kernel
theorem dX6_take_14 : decode cX6_take 14 = .ok (.getfield 9, 3) := by decide +kernel
theorem dX6_take_17 : decode cX6_take 17 = .ok (.iconst 0, 1) := by decide +kernel
theorem dX6_take_18 : decode cX6_take 18 = .ok (.bipush 16, 2) := by decide +kernel
theorem dX6_take_20 : decode cX6_take 20 = .ok (.invokestatic 19, 3) := by decide +kernel
theorem dX6_take_23 : decode cX6_take 23 = .ok (.return_, 1) := by decide +kernel
theorem dX7_init_0 : decode cX7_init 0 = .ok (.aload_n 0, 1) := by decide +kernel
theorem dX7_init_1 : decode cX7_init 1 = .ok (.invokespecial 1, 3) := by decide +kernel
theorem dX7_init_4 : decode cX7_init 4 = .ok (.return_, 1) := by decide +kernel
theorem dX7_loadBy_0 : decode cX7_loadBy 0 = .ok (.iload_n 1, 1) := by decide +kernel
theorem dX7_loadBy_1 : decode cX7_loadBy 1 = .ok (.ireturn, 1) := by decide +kernel
theorem dX7_mayRise_0 : decode cX7_mayRise 0 = .ok (.iconst 1, 1) := by decide +kernel
theorem dX7_mayRise_1 : decode cX7_mayRise 1 = .ok (.ireturn, 1) := by decide +kernel
theorem dX7_mayFall_0 : decode cX7_mayFall 0 = .ok (.iconst 1, 1) := by decide +kernel
theorem dX7_mayFall_1 : decode cX7_mayFall 1 = .ok (.ireturn, 1) := by decide +kernel
theorem dX8_init_0 : decode cX8_init 0 = .ok (.aload_n 0, 1) := by decide +kernel
theorem dX8_init_1 : decode cX8_init 1 = .ok (.invokespecial 3, 3) := by decide +kernel
theorem dX8_init_4 : decode cX8_init 4 = .ok (.aload_n 0, 1) := by decide +kernel
theorem dX8_init_5 : decode cX8_init 5 = .ok (.iconst 3, 1) := by decide +kernel
theorem dX8_init_6 : decode cX8_init 6 = .ok (.newarray .int, 2) := by decide +kernel
theorem dX8_init_8 : decode cX8_init 8 = .ok (.putfield 9, 3) := by decide +kernel
theorem dX8_init_11 : decode cX8_init 11 = .ok (.return_, 1) := by decide +kernel
theorem dX8_readInto_0 : decode cX8_readInto 0 = .ok (.iconst 0, 1) := by decide +kernel
theorem dX8_readInto_1 : decode cX8_readInto 1 = .ok (.istore_n 3, 1) := by decide +kernel
theorem dX8_readInto_2 : decode cX8_readInto 2 = .ok (.iconst (-1), 1) := by decide +kernel
theorem dX8_readInto_3 : decode cX8_readInto 3 = .ok (.istore 4, 2) := by decide +kernel
theorem dX8_readInto_5 : decode cX8_readInto 5 = .ok (.aload_n 1, 1) := by decide +kernel
theorem dX8_readInto_6 : decode cX8_readInto 6 = .ok (.invokevirtual 15, 3) := by decide +kernel
theorem dX8_readInto_9 : decode cX8_readInto 9 = .ok (.aload_n 2, 1) := by decide +kernel
theorem dX8_readInto_10 : decode cX8_readInto 10 = .ok (.invokevirtual 20, 3) := by decide +kernel
theorem dX8_readInto_13 : decode cX8_readInto 13 = .ok (.aload_n 2, 1) := by decide +kernel
theorem dX8_readInto_14 : decode cX8_readInto 14 = .ok (.getfield 25, 3) := by decide +kernel
theorem dX8_readInto_17 : decode cX8_readInto 17 = .ok (.ifCond .eq 49, 3) := by decide +kernel
theorem dX8_readInto_20 : decode cX8_readInto 20 = .ok (.iload_n 3, 1) := by decide +kernel
theorem dX8_readInto_21 : decode cX8_readInto 21 = .ok (.sipush 200, 3) := by decide +kernel
theorem dX8_readInto_24 : decode cX8_readInto 24 = .ok (.if_icmp .ge 42, 3) := by decide +kernel
theorem dX8_readInto_27 : decode cX8_readInto 27 = .ok (.aload_n 0, 1) := by decide +kernel
theorem dX8_readInto_28 : decode cX8_readInto 28 = .ok (.aload_n 2, 1) := by decide +kernel
theorem dX8_readInto_29 : decode cX8_readInto 29 = .ok (.invokevirtual 29, 3) := by decide +kernel
theorem dX8_readInto_32 : decode cX8_readInto 32 = .ok (.ifCond .ne 11, 3) := by decide +kernel
theorem dX8_readInto_35 : decode cX8_readInto 35 = .ok (.bipush (-10), 2) := by decide +kernel
theorem dX8_readInto_37 : decode cX8_readInto 37 = .ok (.aload_n 2, 1) := by decide +kernel
theorem dX8_readInto_38 : decode cX8_readInto 38 = .ok (.getfield 33, 3) := by decide +kernel
theorem dX8_readInto_41 : decode cX8_readInto 41 = .ok (.isub, 1) := by decide +kernel
theorem dX8_readInto_42 : decode cX8_readInto 42 = .ok (.ireturn, 1) := by decide +kernel
theorem dX8_readInto_43 : decode cX8_readInto 43 = .ok (.iload 4, 2) := by decide +kernel
theorem dX8_readInto_45 : decode cX8_readInto 45 = .ok (.iconst (-1), 1) := by decide +kernel
theorem dX8_readInto_46 : decode cX8_readInto 46 = .ok (.if_icmp .ne 14, 3) := by decide +kernel
theorem dX8_readInto_49 : decode cX8_readInto 49 = .ok (.aload_n 0, 1) := by decide +kernel
theorem dX8_readInto_50 : decode cX8_readInto 50 = .ok (.aload_n 1, 1) := by decide +kernel
theorem dX8_readInto_51 : decode cX8_readInto 51 = .ok (.invokevirtual 36, 3) := by decide +kernel
theorem dX8_readInto_54 : decode cX8_readInto 54 = .ok (.ifCond .ge 6, 3) := by decide +kernel
theorem dX8_readInto_57 : decode cX8_readInto 57 = .ok (.iload_n 3, 1) := by decide +kernel
theorem dX8_readInto_58 : decode cX8_readInto 58 = .ok (.istore 4, 2) := by decide +kernel
theorem dX8_readInto_60 : decode cX8_readInto 60 = .ok (.iinc 3 1, 3) := by decide +kernel
theorem dX8_readInto_63 : decode cX8_readInto 63 = .ok (.goto (-50), 3) := by decide +kernel
theorem dX8_readInto_66 : decode cX8_readInto 66 = .ok (.iload 4, 2) := by decide +kernel
theorem dX8_readInto_68 : decode cX8_readInto 68 = .ok (.iconst (-1), 1) := by decide +kernel
theorem dX8_readInto_69 : decode cX8_readInto 69 = .ok (.if_icmp .ne 7, 3) := by decide +kernel
theorem dX8_readInto_72 : decode cX8_readInto 72 = .ok (.iload_n 3, 1) := by decide +kernel
theorem dX8_readInto_73 : decode cX8_readInto 73 = .ok (.goto 9, 3) := by decide +kernel
theorem dX8_readInto_76 : decode cX8_readInto 76 = .ok (.sipush (-1000), 3) := by decide +kernel
theorem dX8_readInto_79 : decode cX8_readInto 79 = .ok (.iload 4, 2) := by decide +kernel
theorem dX8_readInto_81 : decode cX8_readInto 81 = .ok (.isub, 1) := by decide +kernel
theorem dX8_readInto_82 : decode cX8_readInto 82 = .ok (.ireturn, 1) := by decide +kernel
theorem dX8_readItem_0 : decode cX8_readItem 0 = .ok (.aload_n 1, 1) := by decide +kernel
theorem dX8_readItem_1 : decode cX8_readItem 1 = .ok (.getfield 25, 3) := by decide +kernel
theorem dX8_readItem_4 : decode cX8_readItem 4 = .ok (.iconst 1, 1) := by decide +kernel
theorem dX8_readItem_5 : decode cX8_readItem 5 = .ok (.if_icmp .eq 5, 3) := by decide +kernel
theorem dX8_readItem_8 : decode cX8_readItem 8 = .ok (.iconst 0, 1) := by decide +kernel
theorem dX8_readItem_9 : decode cX8_readItem 9 = .ok (.ireturn, 1) := by decide +kernel
theorem dX8_readItem_10 : decode cX8_readItem 10 = .ok (.aload_n 0, 1) := by decide +kernel
theorem dX8_readItem_11 : decode cX8_readItem 11 = .ok (.aload_n 1, 1) := by decide +kernel
theorem dX8_readItem_12 : decode cX8_readItem 12 = .ok (.getfield 40, 3) := by decide +kernel
theorem dX8_readItem_15 : decode cX8_readItem 15 = .ok (.putfield 43, 3) := by decide +kernel
theorem dX8_readItem_18 : decode cX8_readItem 18 = .ok (.iconst 0, 1) := by decide +kernel
theorem dX8_readItem_19 : decode cX8_readItem 19 = .ok (.istore_n 2, 1) := by decide +kernel
theorem dX8_readItem_20 : decode cX8_readItem 20 = .ok (.iload_n 2, 1) := by decide +kernel
theorem dX8_readItem_21 : decode cX8_readItem 21 = .ok (.getstatic 46, 3) := by decide +kernel
theorem dX8_readItem_24 : decode cX8_readItem 24 = .ok (.aload_n 0, 1) := by decide +kernel
theorem dX8_readItem_25 : decode cX8_readItem 25 = .ok (.getfield 43, 3) := by decide +kernel
theorem dX8_readItem_28 : decode cX8_readItem 28 = .ok (.iaload, 1) := by decide +kernel
theorem dX8_readItem_29 : decode cX8_readItem 29 = .ok (.if_icmp .ge 33, 3) := by decide +kernel
theorem dX8_readItem_32 : decode cX8_readItem 32 = .ok (.aload_n 1, 1) := by decide +kernel
theorem dX8_readItem_33 : decode cX8_readItem 33 = .ok (.invokevirtual 49, 3) := by decide +kernel
theorem dX8_readItem_36 : decode cX8_readItem 36 = .ok (.aload_n 1, 1) := by decide +kernel
theorem dX8_readItem_37 : decode cX8_readItem 37 = .ok (.getfield 25, 3) := by decide +kernel
theorem dX8_readItem_40 : decode cX8_readItem 40 = .ok (.iconst 2, 1) := by decide +kernel
theorem dX8_readItem_41 : decode cX8_readItem 41 = .ok (.if_icmp .eq 5, 3) := by decide +kernel
theorem dX8_readItem_44 : decode cX8_readItem 44 = .ok (.iconst 0, 1) := by decide +kernel
theorem dX8_readItem_45 : decode cX8_readItem 45 = .ok (.ireturn, 1) := by decide +kernel
theorem dX8_readItem_46 : decode cX8_readItem 46 = .ok (.aload_n 0, 1) := by decide +kernel
theorem dX8_readItem_47 : decode cX8_readItem 47 = .ok (.getfield 9, 3) := by decide +kernel
theorem dX8_readItem_50 : decode cX8_readItem 50 = .ok (.iload_n 2, 1) := by decide +kernel
theorem dX8_readItem_51 : decode cX8_readItem 51 = .ok (.aload_n 1, 1) := by decide +kernel
theorem dX8_readItem_52 : decode cX8_readItem 52 = .ok (.getfield 40, 3) := by decide +kernel
theorem dX8_readItem_55 : decode cX8_readItem 55 = .ok (.iastore, 1) := by decide +kernel
theorem dX8_readItem_56 : decode cX8_readItem 56 = .ok (.iinc 2 1, 3) := by decide +kernel
theorem dX8_readItem_59 : decode cX8_readItem 59 = .ok (.goto (-39), 3) := by decide +kernel
theorem dX8_readItem_62 : decode cX8_readItem 62 = .ok (.aload_n 1, 1) := by decide +kernel
theorem dX8_readItem_63 : decode cX8_readItem 63 = .ok (.invokevirtual 49, 3) := by decide +kernel
theorem dX8_readItem_66 : decode cX8_readItem 66 = .ok (.aload_n 1, 1) := by decide +kernel
theorem dX8_readItem_67 : decode cX8_readItem 67 = .ok (.getfield 25, 3) := by decide +kernel
theorem dX8_readItem_70 : decode cX8_readItem 70 = .ok (.iconst 3, 1) := by decide +kernel
theorem dX8_readItem_71 : decode cX8_readItem 71 = .ok (.if_icmp .eq 5, 3) := by decide +kernel
theorem dX8_readItem_74 : decode cX8_readItem 74 = .ok (.iconst 0, 1) := by decide +kernel
theorem dX8_readItem_75 : decode cX8_readItem 75 = .ok (.ireturn, 1) := by decide +kernel
theorem dX8_readItem_76 : decode cX8_readItem 76 = .ok (.aload_n 1, 1) := by decide +kernel
theorem dX8_readItem_77 : decode cX8_readItem 77 = .ok (.invokevirtual 49, 3) := by decide +kernel
theorem dX8_readItem_80 : decode cX8_readItem 80 = .ok (.iconst 1, 1) := by decide +kernel
theorem dX8_readItem_81 : decode cX8_readItem 81 = .ok (.ireturn, 1) := by decide +kernel
theorem dX8_tell_0 : decode cX8_tell 0 = .ok (.aload_n 0, 1) := by decide +kernel
theorem dX8_tell_1 : decode cX8_tell 1 = .ok (.getfield 43, 3) := by decide +kernel
theorem dX8_tell_4 : decode cX8_tell 4 = .ok (.tableswitch 120 0 3 #[32, 56, 80, 103], 32) := by decide +kernel
theorem dX8_tell_36 : decode cX8_tell 36 = .ok (.aload_n 1, 1) := by decide +kernel
theorem dX8_tell_37 : decode cX8_tell 37 = .ok (.aload_n 0, 1) := by decide +kernel
theorem dX8_tell_38 : decode cX8_tell 38 = .ok (.getfield 9, 3) := by decide +kernel
theorem dX8_tell_41 : decode cX8_tell 41 = .ok (.iconst 0, 1) := by decide +kernel
theorem dX8_tell_42 : decode cX8_tell 42 = .ok (.iaload, 1) := by decide +kernel
theorem dX8_tell_43 : decode cX8_tell 43 = .ok (.aload_n 0, 1) := by decide +kernel
theorem dX8_tell_44 : decode cX8_tell 44 = .ok (.getfield 9, 3) := by decide +kernel
theorem dX8_tell_47 : decode cX8_tell 47 = .ok (.iconst 1, 1) := by decide +kernel
theorem dX8_tell_48 : decode cX8_tell 48 = .ok (.iaload, 1) := by decide +kernel
theorem dX8_tell_49 : decode cX8_tell 49 = .ok (.aload_n 0, 1) := by decide +kernel
theorem dX8_tell_50 : decode cX8_tell 50 = .ok (.getfield 9, 3) := by decide +kernel
theorem dX8_tell_53 : decode cX8_tell 53 = .ok (.iconst 2, 1) := by decide +kernel
theorem dX8_tell_54 : decode cX8_tell 54 = .ok (.iaload, 1) := by decide +kernel
theorem dX8_tell_55 : decode cX8_tell 55 = .ok (.iconst 0, 1) := by decide +kernel
theorem dX8_tell_56 : decode cX8_tell 56 = .ok (.invokevirtual 52, 3) := by decide +kernel
theorem dX8_tell_59 : decode cX8_tell 59 = .ok (.ireturn, 1) := by decide +kernel
theorem dX8_tell_60 : decode cX8_tell 60 = .ok (.aload_n 1, 1) := by decide +kernel
theorem dX8_tell_61 : decode cX8_tell 61 = .ok (.aload_n 0, 1) := by decide +kernel
theorem dX8_tell_62 : decode cX8_tell 62 = .ok (.getfield 9, 3) := by decide +kernel
theorem dX8_tell_65 : decode cX8_tell 65 = .ok (.iconst 0, 1) := by decide +kernel
theorem dX8_tell_66 : decode cX8_tell 66 = .ok (.iaload, 1) := by decide +kernel
theorem dX8_tell_67 : decode cX8_tell 67 = .ok (.aload_n 0, 1) := by decide +kernel
theorem dX8_tell_68 : decode cX8_tell 68 = .ok (.getfield 9, 3) := by decide +kernel
theorem dX8_tell_71 : decode cX8_tell 71 = .ok (.iconst 1, 1) := by decide +kernel
theorem dX8_tell_72 : decode cX8_tell 72 = .ok (.iaload, 1) := by decide +kernel
theorem dX8_tell_73 : decode cX8_tell 73 = .ok (.aload_n 0, 1) := by decide +kernel
theorem dX8_tell_74 : decode cX8_tell 74 = .ok (.getfield 9, 3) := by decide +kernel
theorem dX8_tell_77 : decode cX8_tell 77 = .ok (.iconst 2, 1) := by decide +kernel
theorem dX8_tell_78 : decode cX8_tell 78 = .ok (.iaload, 1) := by decide +kernel
theorem dX8_tell_79 : decode cX8_tell 79 = .ok (.iconst 1, 1) := by decide +kernel
theorem dX8_tell_80 : decode cX8_tell 80 = .ok (.invokevirtual 52, 3) := by decide +kernel
theorem dX8_tell_83 : decode cX8_tell 83 = .ok (.ireturn, 1) := by decide +kernel
theorem dX8_tell_84 : decode cX8_tell 84 = .ok (.aload_n 1, 1) := by decide +kernel
theorem dX8_tell_85 : decode cX8_tell 85 = .ok (.aload_n 0, 1) := by decide +kernel
theorem dX8_tell_86 : decode cX8_tell 86 = .ok (.getfield 9, 3) := by decide +kernel
theorem dX8_tell_89 : decode cX8_tell 89 = .ok (.iconst 0, 1) := by decide +kernel
theorem dX8_tell_90 : decode cX8_tell 90 = .ok (.iaload, 1) := by decide +kernel
theorem dX8_tell_91 : decode cX8_tell 91 = .ok (.aload_n 0, 1) := by decide +kernel
theorem dX8_tell_92 : decode cX8_tell 92 = .ok (.getfield 9, 3) := by decide +kernel
theorem dX8_tell_95 : decode cX8_tell 95 = .ok (.iconst 1, 1) := by decide +kernel
theorem dX8_tell_96 : decode cX8_tell 96 = .ok (.iaload, 1) := by decide +kernel
theorem dX8_tell_97 : decode cX8_tell 97 = .ok (.aload_n 0, 1) := by decide +kernel
theorem dX8_tell_98 : decode cX8_tell 98 = .ok (.getfield 9, 3) := by decide +kernel
theorem dX8_tell_101 : decode cX8_tell 101 = .ok (.iconst 2, 1) := by decide +kernel
theorem dX8_tell_102 : decode cX8_tell 102 = .ok (.iaload, 1) := by decide +kernel
theorem dX8_tell_103 : decode cX8_tell 103 = .ok (.invokevirtual 56, 3) := by decide +kernel
theorem dX8_tell_106 : decode cX8_tell 106 = .ok (.ireturn, 1) := by decide +kernel
theorem dX8_tell_107 : decode cX8_tell 107 = .ok (.aload_n 1, 1) := by decide +kernel
theorem dX8_tell_108 : decode cX8_tell 108 = .ok (.aload_n 0, 1) := by decide +kernel
theorem dX8_tell_109 : decode cX8_tell 109 = .ok (.getfield 9, 3) := by decide +kernel
theorem dX8_tell_112 : decode cX8_tell 112 = .ok (.iconst 0, 1) := by decide +kernel
theorem dX8_tell_113 : decode cX8_tell 113 = .ok (.iaload, 1) := by decide +kernel
theorem dX8_tell_114 : decode cX8_tell 114 = .ok (.aload_n 0, 1) := by decide +kernel
theorem dX8_tell_115 : decode cX8_tell 115 = .ok (.getfield 9, 3) := by decide +kernel
theorem dX8_tell_118 : decode cX8_tell 118 = .ok (.iconst 1, 1) := by decide +kernel
theorem dX8_tell_119 : decode cX8_tell 119 = .ok (.iaload, 1) := by decide +kernel
theorem dX8_tell_120 : decode cX8_tell 120 = .ok (.invokevirtual 60, 3) := by decide +kernel
theorem dX8_tell_123 : decode cX8_tell 123 = .ok (.ireturn, 1) := by decide +kernel
theorem dX8_tell_124 : decode cX8_tell 124 = .ok (.aload_n 1, 1) := by decide +kernel
theorem dX8_tell_125 : decode cX8_tell 125 = .ok (.aload_n 0, 1) := by decide +kernel
theorem dX8_tell_126 : decode cX8_tell 126 = .ok (.getfield 9, 3) := by decide +kernel
theorem dX8_tell_129 : decode cX8_tell 129 = .ok (.iconst 0, 1) := by decide +kernel
theorem dX8_tell_130 : decode cX8_tell 130 = .ok (.iaload, 1) := by decide +kernel
theorem dX8_tell_131 : decode cX8_tell 131 = .ok (.aload_n 0, 1) := by decide +kernel
theorem dX8_tell_132 : decode cX8_tell 132 = .ok (.getfield 9, 3) := by decide +kernel
theorem dX8_tell_135 : decode cX8_tell 135 = .ok (.iconst 1, 1) := by decide +kernel
theorem dX8_tell_136 : decode cX8_tell 136 = .ok (.iaload, 1) := by decide +kernel
theorem dX8_tell_137 : decode cX8_tell 137 = .ok (.invokevirtual 64, 3) := by decide +kernel
theorem dX8_tell_140 : decode cX8_tell 140 = .ok (.ireturn, 1) := by decide +kernel
theorem dX9_init_0 : decode cX9_init 0 = .ok (.aload_n 0, 1) := by decide +kernel
theorem dX9_init_1 : decode cX9_init 1 = .ok (.invokespecial 3, 3) := by decide +kernel
theorem dX9_init_4 : decode cX9_init 4 = .ok (.aload_n 0, 1) := by decide +kernel
theorem dX9_init_5 : decode cX9_init 5 = .ok (.sipush 9000, 3) := by decide +kernel
theorem dX9_init_8 : decode cX9_init 8 = .ok (.newarray .int, 2) := by decide +kernel
theorem dX9_init_10 : decode cX9_init 10 = .ok (.putfield 9, 3) := by decide +kernel
theorem dX9_init_13 : decode cX9_init 13 = .ok (.aload_n 0, 1) := by decide +kernel
theorem dX9_init_14 : decode cX9_init 14 = .ok (.sipush 500, 3) := by decide +kernel
theorem dX9_init_17 : decode cX9_init 17 = .ok (.newarray .long, 2) := by decide +kernel
theorem dX9_init_19 : decode cX9_init 19 = .ok (.putfield 15, 3) := by decide +kernel
theorem dX9_init_22 : decode cX9_init 22 = .ok (.return_, 1) := by decide +kernel
theorem dX9_shorter_0 : decode cX9_shorter 0 = .ok (.iload 4, 2) := by decide +kernel
theorem dX9_shorter_2 : decode cX9_shorter 2 = .ok (.iconst (-1), 1) := by decide +kernel
theorem dX9_shorter_3 : decode cX9_shorter 3 = .ok (.if_icmp .ne 9, 3) := by decide +kernel
theorem dX9_shorter_6 : decode cX9_shorter 6 = .ok (.sipush 9000, 3) := by decide +kernel
theorem dX9_shorter_9 : decode cX9_shorter 9 = .ok (.goto 7, 3) := by decide +kernel
theorem dX9_shorter_12 : decode cX9_shorter 12 = .ok (.iload 4, 2) := by decide +kernel
theorem dX9_shorter_14 : decode cX9_shorter 14 = .ok (.iconst 1, 1) := by decide +kernel
theorem dX9_shorter_15 : decode cX9_shorter 15 = .ok (.isub, 1) := by decide +kernel
theorem dX9_shorter_16 : decode cX9_shorter 16 = .ok (.istore 5, 2) := by decide +kernel
theorem dX9_shorter_18 : decode cX9_shorter 18 = .ok (.aload_n 0, 1) := by decide +kernel
theorem dX9_shorter_19 : decode cX9_shorter 19 = .ok (.aload_n 1, 1) := by decide +kernel
theorem dX9_shorter_20 : decode cX9_shorter 20 = .ok (.invokevirtual 19, 3) := by decide +kernel
theorem dX9_shorter_23 : decode cX9_shorter 23 = .ok (.invokevirtual 25, 3) := by decide +kernel
theorem dX9_shorter_26 : decode cX9_shorter 26 = .ok (.iconst 0, 1) := by decide +kernel
theorem dX9_shorter_27 : decode cX9_shorter 27 = .ok (.istore 6, 2) := by decide +kernel
theorem dX9_shorter_29 : decode cX9_shorter 29 = .ok (.iconst 0, 1) := by decide +kernel
theorem dX9_shorter_30 : decode cX9_shorter 30 = .ok (.istore 7, 2) := by decide +kernel
theorem dX9_shorter_32 : decode cX9_shorter 32 = .ok (.iload 7, 2) := by decide +kernel
theorem dX9_shorter_34 : decode cX9_shorter 34 = .ok (.iload 5, 2) := by decide +kernel
theorem dX9_shorter_36 : decode cX9_shorter 36 = .ok (.if_icmp .gt 92, 3) := by decide +kernel
theorem dX9_shorter_39 : decode cX9_shorter 39 = .ok (.iload 6, 2) := by decide +kernel
theorem dX9_shorter_41 : decode cX9_shorter 41 = .ok (.aload_n 0, 1) := by decide +kernel
theorem dX9_shorter_42 : decode cX9_shorter 42 = .ok (.getfield 29, 3) := by decide +kernel
theorem dX9_shorter_45 : decode cX9_shorter 45 = .ok (.if_icmp .ge 83, 3) := by decide +kernel
theorem dX9_shorter_48 : decode cX9_shorter 48 = .ok (.aload_n 0, 1) := by decide +kernel
theorem dX9_shorter_49 : decode cX9_shorter 49 = .ok (.getfield 29, 3) := by decide +kernel
theorem dX9_shorter_52 : decode cX9_shorter 52 = .ok (.istore 8, 2) := by decide +kernel
theorem dX9_shorter_54 : decode cX9_shorter 54 = .ok (.iload 6, 2) := by decide +kernel
theorem dX9_shorter_56 : decode cX9_shorter 56 = .ok (.istore 9, 2) := by decide +kernel
theorem dX9_shorter_58 : decode cX9_shorter 58 = .ok (.iload 9, 2) := by decide +kernel
theorem dX9_shorter_60 : decode cX9_shorter 60 = .ok (.iload 8, 2) := by decide +kernel
theorem dX9_shorter_62 : decode cX9_shorter 62 = .ok (.if_icmp .ge 56, 3) := by decide +kernel
theorem dX9_shorter_65 : decode cX9_shorter 65 = .ok (.aload_n 1, 1) := by decide +kernel
theorem dX9_shorter_66 : decode cX9_shorter 66 = .ok (.aload_n 0, 1) := by decide +kernel
theorem dX9_shorter_67 : decode cX9_shorter 67 = .ok (.iload 9, 2) := by decide +kernel
theorem dX9_shorter_69 : decode cX9_shorter 69 = .ok (.invokevirtual 33, 3) := by decide +kernel
theorem dX9_shorter_72 : decode cX9_shorter 72 = .ok (.invokevirtual 37, 3) := by decide +kernel
theorem dX9_shorter_75 : decode cX9_shorter 75 = .ok (.iload_n 3, 1) := by decide +kernel
theorem dX9_shorter_76 : decode cX9_shorter 76 = .ok (.iconst (-1), 1) := by decide +kernel
theorem dX9_shorter_77 : decode cX9_shorter 77 = .ok (.if_icmp .eq 21, 3) := by decide +kernel
theorem dX9_shorter_80 : decode cX9_shorter 80 = .ok (.aload_n 1, 1) := by decide +kernel
theorem dX9_shorter_81 : decode cX9_shorter 81 = .ok (.iload_n 2, 1) := by decide +kernel
theorem dX9_shorter_82 : decode cX9_shorter 82 = .ok (.iload_n 3, 1) := by decide +kernel
theorem dX9_shorter_83 : decode cX9_shorter 83 = .ok (.invokevirtual 40, 3) := by decide +kernel
theorem dX9_shorter_86 : decode cX9_shorter 86 = .ok (.ifCond .eq 12, 3) := by decide +kernel
theorem dX9_shorter_89 : decode cX9_shorter 89 = .ok (.aload_n 0, 1) := by decide +kernel
theorem dX9_shorter_90 : decode cX9_shorter 90 = .ok (.iload 9, 2) := by decide +kernel
theorem dX9_shorter_92 : decode cX9_shorter 92 = .ok (.putfield 44, 3) := by decide +kernel
theorem dX9_shorter_95 : decode cX9_shorter 95 = .ok (.iload 7, 2) := by decide +kernel
theorem dX9_shorter_97 : decode cX9_shorter 97 = .ok (.ireturn, 1) := by decide +kernel
theorem dX9_shorter_98 : decode cX9_shorter 98 = .ok (.iload 7, 2) := by decide +kernel
theorem dX9_shorter_100 : decode cX9_shorter 100 = .ok (.iload 5, 2) := by decide +kernel
theorem dX9_shorter_102 : decode cX9_shorter 102 = .ok (.if_icmp .ge 10, 3) := by decide +kernel
theorem dX9_shorter_105 : decode cX9_shorter 105 = .ok (.aload_n 0, 1) := by decide +kernel
theorem dX9_shorter_106 : decode cX9_shorter 106 = .ok (.aload_n 1, 1) := by decide +kernel
theorem dX9_shorter_107 : decode cX9_shorter 107 = .ok (.iload 9, 2) := by decide +kernel
theorem dX9_shorter_109 : decode cX9_shorter 109 = .ok (.invokevirtual 47, 3) := by decide +kernel
theorem dX9_shorter_112 : decode cX9_shorter 112 = .ok (.iinc 9 1, 3) := by decide +kernel
theorem dX9_shorter_115 : decode cX9_shorter 115 = .ok (.goto (-57), 3) := by decide +kernel
theorem dX9_shorter_118 : decode cX9_shorter 118 = .ok (.iload 8, 2) := by decide +kernel
theorem dX9_shorter_120 : decode cX9_shorter 120 = .ok (.istore 6, 2) := by decide +kernel
theorem dX9_shorter_122 : decode cX9_shorter 122 = .ok (.iinc 7 1, 3) := by decide +kernel
theorem dX9_shorter_125 : decode cX9_shorter 125 = .ok (.goto (-93), 3) := by decide +kernel
theorem dX9_shorter_128 : decode cX9_shorter 128 = .ok (.iconst (-1), 1) := by decide +kernel
end
section
theorem dX9_shorter_129 : decode cX9_shorter 129 = .ok (.ireturn, 1) := by decide +kernel
theorem dX9_begin_0 : decode cX9_begin 0 = .ok (.aload_n 0, 1) := by decide +kernel
theorem dX9_begin_1 : decode cX9_begin 1 = .ok (.getfield 15, 3) := by decide +kernel
theorem dX9_begin_4 : decode cX9_begin 4 = .ok (.lconst 0, 1) := by decide +kernel
theorem dX9_begin_5 : decode cX9_begin 5 = .ok (.invokestatic 51, 3) := by decide +kernel
theorem dX9_begin_8 : decode cX9_begin 8 = .ok (.aload_n 0, 1) := by decide +kernel
theorem dX9_begin_9 : decode cX9_begin 9 = .ok (.iconst 0, 1) := by decide +kernel
theorem dX9_begin_10 : decode cX9_begin 10 = .ok (.putfield 29, 3) := by decide +kernel
theorem dX9_begin_13 : decode cX9_begin 13 = .ok (.aload_n 0, 1) := by decide +kernel
theorem dX9_begin_14 : decode cX9_begin 14 = .ok (.iconst 0, 1) := by decide +kernel
theorem dX9_begin_15 : decode cX9_begin 15 = .ok (.putfield 57, 3) := by decide +kernel
theorem dX9_begin_18 : decode cX9_begin 18 = .ok (.aload_n 0, 1) := by decide +kernel
theorem dX9_begin_19 : decode cX9_begin 19 = .ok (.iconst 0, 1) := by decide +kernel
theorem dX9_begin_20 : decode cX9_begin 20 = .ok (.putfield 44, 3) := by decide +kernel
theorem dX9_begin_23 : decode cX9_begin 23 = .ok (.aload_n 0, 1) := by decide +kernel
theorem dX9_begin_24 : decode cX9_begin 24 = .ok (.iload_n 1, 1) := by decide +kernel
theorem dX9_begin_25 : decode cX9_begin 25 = .ok (.iconst 0, 1) := by decide +kernel
theorem dX9_begin_26 : decode cX9_begin 26 = .ok (.invokevirtual 60, 3) := by decide +kernel
theorem dX9_begin_29 : decode cX9_begin 29 = .ok (.return_, 1) := by decide +kernel
theorem dX9_goOn_0 : decode cX9_goOn 0 = .ok (.aload_n 0, 1) := by decide +kernel
theorem dX9_goOn_1 : decode cX9_goOn 1 = .ok (.iload_n 2, 1) := by decide +kernel
theorem dX9_goOn_2 : decode cX9_goOn 2 = .ok (.invokevirtual 33, 3) := by decide +kernel
theorem dX9_goOn_5 : decode cX9_goOn 5 = .ok (.istore_n 3, 1) := by decide +kernel
theorem dX9_goOn_6 : decode cX9_goOn 6 = .ok (.iconst 0, 1) := by decide +kernel
theorem dX9_goOn_7 : decode cX9_goOn 7 = .ok (.istore 4, 2) := by decide +kernel
theorem dX9_goOn_9 : decode cX9_goOn 9 = .ok (.iload 4, 2) := by decide +kernel
theorem dX9_goOn_11 : decode cX9_goOn 11 = .ok (.aload_n 1, 1) := by decide +kernel
theorem dX9_goOn_12 : decode cX9_goOn 12 = .ok (.getfield 64, 3) := by decide +kernel
theorem dX9_goOn_15 : decode cX9_goOn 15 = .ok (.if_icmp .ge 102, 3) := by decide +kernel
theorem dX9_goOn_18 : decode cX9_goOn 18 = .ok (.aload_n 1, 1) := by decide +kernel
theorem dX9_goOn_19 : decode cX9_goOn 19 = .ok (.getfield 67, 3) := by decide +kernel
theorem dX9_goOn_22 : decode cX9_goOn 22 = .ok (.iload 4, 2) := by decide +kernel
theorem dX9_goOn_24 : decode cX9_goOn 24 = .ok (.iaload, 1) := by decide +kernel
theorem dX9_goOn_25 : decode cX9_goOn 25 = .ok (.iconst 5, 1) := by decide +kernel
theorem dX9_goOn_26 : decode cX9_goOn 26 = .ok (.if_icmp .ge 7, 3) := by decide +kernel
theorem dX9_goOn_29 : decode cX9_goOn 29 = .ok (.iconst 1, 1) := by decide +kernel
theorem dX9_goOn_30 : decode cX9_goOn 30 = .ok (.goto 4, 3) := by decide +kernel
theorem dX9_goOn_33 : decode cX9_goOn 33 = .ok (.iconst 0, 1) := by decide +kernel
theorem dX9_goOn_34 : decode cX9_goOn 34 = .ok (.istore 5, 2) := by decide +kernel
theorem dX9_goOn_36 : decode cX9_goOn 36 = .ok (.iload 5, 2) := by decide +kernel
theorem dX9_goOn_38 : decode cX9_goOn 38 = .ok (.ifCond .eq 12, 3) := by decide +kernel
theorem dX9_goOn_41 : decode cX9_goOn 41 = .ok (.iconst 5, 1) := by decide +kernel
theorem dX9_goOn_42 : decode cX9_goOn 42 = .ok (.aload_n 1, 1) := by decide +kernel
theorem dX9_goOn_43 : decode cX9_goOn 43 = .ok (.getfield 70, 3) := by decide +kernel
theorem dX9_goOn_46 : decode cX9_goOn 46 = .ok (.iadd, 1) := by decide +kernel
theorem dX9_goOn_47 : decode cX9_goOn 47 = .ok (.goto 4, 3) := by decide +kernel
theorem dX9_goOn_50 : decode cX9_goOn 50 = .ok (.iconst 5, 1) := by decide +kernel
theorem dX9_goOn_51 : decode cX9_goOn 51 = .ok (.istore 6, 2) := by decide +kernel
theorem dX9_goOn_53 : decode cX9_goOn 53 = .ok (.iload 5, 2) := by decide +kernel
theorem dX9_goOn_55 : decode cX9_goOn 55 = .ok (.ifCond .eq 7, 3) := by decide +kernel
theorem dX9_goOn_58 : decode cX9_goOn 58 = .ok (.iconst 5, 1) := by decide +kernel
theorem dX9_goOn_59 : decode cX9_goOn 59 = .ok (.goto 4, 3) := by decide +kernel
theorem dX9_goOn_62 : decode cX9_goOn 62 = .ok (.iconst 0, 1) := by decide +kernel
theorem dX9_goOn_63 : decode cX9_goOn 63 = .ok (.istore 7, 2) := by decide +kernel
theorem dX9_goOn_65 : decode cX9_goOn 65 = .ok (.iload 7, 2) := by decide +kernel
theorem dX9_goOn_67 : decode cX9_goOn 67 = .ok (.iload 6, 2) := by decide +kernel
theorem dX9_goOn_69 : decode cX9_goOn 69 = .ok (.if_icmp .ge 42, 3) := by decide +kernel
theorem dX9_goOn_72 : decode cX9_goOn 72 = .ok (.aload_n 1, 1) := by decide +kernel
theorem dX9_goOn_73 : decode cX9_goOn 73 = .ok (.iload 4, 2) := by decide +kernel
theorem dX9_goOn_75 : decode cX9_goOn 75 = .ok (.iload 7, 2) := by decide +kernel
theorem dX9_goOn_77 : decode cX9_goOn 77 = .ok (.invokevirtual 73, 3) := by decide +kernel
theorem dX9_goOn_80 : decode cX9_goOn 80 = .ok (.ifCond .eq 25, 3) := by decide +kernel
theorem dX9_goOn_83 : decode cX9_goOn 83 = .ok (.aload_n 1, 1) := by decide +kernel
theorem dX9_goOn_84 : decode cX9_goOn 84 = .ok (.iload 4, 2) := by decide +kernel
theorem dX9_goOn_86 : decode cX9_goOn 86 = .ok (.iload 7, 2) := by decide +kernel
theorem dX9_goOn_88 : decode cX9_goOn 88 = .ok (.invokevirtual 76, 3) := by decide +kernel
theorem dX9_goOn_91 : decode cX9_goOn 91 = .ok (.aload_n 0, 1) := by decide +kernel
theorem dX9_goOn_92 : decode cX9_goOn 92 = .ok (.aload_n 1, 1) := by decide +kernel
theorem dX9_goOn_93 : decode cX9_goOn 93 = .ok (.invokevirtual 19, 3) := by decide +kernel
theorem dX9_goOn_96 : decode cX9_goOn 96 = .ok (.iload_n 2, 1) := by decide +kernel
theorem dX9_goOn_97 : decode cX9_goOn 97 = .ok (.invokevirtual 60, 3) := by decide +kernel
theorem dX9_goOn_100 : decode cX9_goOn 100 = .ok (.aload_n 1, 1) := by decide +kernel
theorem dX9_goOn_101 : decode cX9_goOn 101 = .ok (.iload_n 3, 1) := by decide +kernel
theorem dX9_goOn_102 : decode cX9_goOn 102 = .ok (.invokevirtual 37, 3) := by decide +kernel
theorem dX9_goOn_105 : decode cX9_goOn 105 = .ok (.iinc 7 1, 3) := by decide +kernel
theorem dX9_goOn_108 : decode cX9_goOn 108 = .ok (.goto (-43), 3) := by decide +kernel
theorem dX9_goOn_111 : decode cX9_goOn 111 = .ok (.iinc 4 1, 3) := by decide +kernel
theorem dX9_goOn_114 : decode cX9_goOn 114 = .ok (.goto (-105), 3) := by decide +kernel
theorem dX9_goOn_117 : decode cX9_goOn 117 = .ok (.return_, 1) := by decide +kernel
theorem dX9_note_0 : decode cX9_note 0 = .ok (.lconst 1, 1) := by decide +kernel
theorem dX9_note_1 : decode cX9_note 1 = .ok (.iload_n 1, 1) := by decide +kernel
theorem dX9_note_2 : decode cX9_note 2 = .ok (.bipush 64, 2) := by decide +kernel
theorem dX9_note_4 : decode cX9_note 4 = .ok (.irem, 1) := by decide +kernel
theorem dX9_note_5 : decode cX9_note 5 = .ok (.lshl, 1) := by decide +kernel
theorem dX9_note_6 : decode cX9_note 6 = .ok (.lstore_n 3, 1) := by decide +kernel
theorem dX9_note_7 : decode cX9_note 7 = .ok (.iload_n 1, 1) := by decide +kernel
theorem dX9_note_8 : decode cX9_note 8 = .ok (.bipush 64, 2) := by decide +kernel
theorem dX9_note_10 : decode cX9_note 10 = .ok (.idiv, 1) := by decide +kernel
theorem dX9_note_11 : decode cX9_note 11 = .ok (.istore 5, 2) := by decide +kernel
theorem dX9_note_13 : decode cX9_note 13 = .ok (.aload_n 0, 1) := by decide +kernel
theorem dX9_note_14 : decode cX9_note 14 = .ok (.getfield 29, 3) := by decide +kernel
theorem dX9_note_17 : decode cX9_note 17 = .ok (.sipush 9000, 3) := by decide +kernel
theorem dX9_note_20 : decode cX9_note 20 = .ok (.if_icmp .eq 17, 3) := by decide +kernel
theorem dX9_note_23 : decode cX9_note 23 = .ok (.aload_n 0, 1) := by decide +kernel
theorem dX9_note_24 : decode cX9_note 24 = .ok (.getfield 15, 3) := by decide +kernel
theorem dX9_note_27 : decode cX9_note 27 = .ok (.iload 5, 2) := by decide +kernel
theorem dX9_note_29 : decode cX9_note 29 = .ok (.laload, 1) := by decide +kernel
theorem dX9_note_30 : decode cX9_note 30 = .ok (.lload_n 3, 1) := by decide +kernel
theorem dX9_note_31 : decode cX9_note 31 = .ok (.land, 1) := by decide +kernel
theorem dX9_note_32 : decode cX9_note 32 = .ok (.lconst 0, 1) := by decide +kernel
theorem dX9_note_33 : decode cX9_note 33 = .ok (.lcmp, 1) := by decide +kernel
theorem dX9_note_34 : decode cX9_note 34 = .ok (.ifCond .eq 4, 3) := by decide +kernel
theorem dX9_note_37 : decode cX9_note 37 = .ok (.return_, 1) := by decide +kernel
theorem dX9_note_38 : decode cX9_note 38 = .ok (.aload_n 0, 1) := by decide +kernel
theorem dX9_note_39 : decode cX9_note 39 = .ok (.getfield 15, 3) := by decide +kernel
theorem dX9_note_42 : decode cX9_note 42 = .ok (.iload 5, 2) := by decide +kernel
theorem dX9_note_44 : decode cX9_note 44 = .ok (.dup2, 1) := by decide +kernel
theorem dX9_note_45 : decode cX9_note 45 = .ok (.laload, 1) := by decide +kernel
theorem dX9_note_46 : decode cX9_note 46 = .ok (.lload_n 3, 1) := by decide +kernel
theorem dX9_note_47 : decode cX9_note 47 = .ok (.lor, 1) := by decide +kernel
theorem dX9_note_48 : decode cX9_note 48 = .ok (.lastore, 1) := by decide +kernel
theorem dX9_note_49 : decode cX9_note 49 = .ok (.aload_n 0, 1) := by decide +kernel
theorem dX9_note_50 : decode cX9_note 50 = .ok (.getfield 9, 3) := by decide +kernel
theorem dX9_note_53 : decode cX9_note 53 = .ok (.aload_n 0, 1) := by decide +kernel
theorem dX9_note_54 : decode cX9_note 54 = .ok (.getfield 29, 3) := by decide +kernel
theorem dX9_note_57 : decode cX9_note 57 = .ok (.iload_n 2, 1) := by decide +kernel
theorem dX9_note_58 : decode cX9_note 58 = .ok (.bipush 15, 2) := by decide +kernel
theorem dX9_note_60 : decode cX9_note 60 = .ok (.ishl, 1) := by decide +kernel
theorem dX9_note_61 : decode cX9_note 61 = .ok (.iload_n 1, 1) := by decide +kernel
theorem dX9_note_62 : decode cX9_note 62 = .ok (.ior, 1) := by decide +kernel
theorem dX9_note_63 : decode cX9_note 63 = .ok (.iastore, 1) := by decide +kernel
theorem dX9_note_64 : decode cX9_note 64 = .ok (.aload_n 0, 1) := by decide +kernel
theorem dX9_note_65 : decode cX9_note 65 = .ok (.dup, 1) := by decide +kernel
theorem dX9_note_66 : decode cX9_note 66 = .ok (.getfield 29, 3) := by decide +kernel
theorem dX9_note_69 : decode cX9_note 69 = .ok (.iconst 1, 1) := by decide +kernel
theorem dX9_note_70 : decode cX9_note 70 = .ok (.iadd, 1) := by decide +kernel
theorem dX9_note_71 : decode cX9_note 71 = .ok (.putfield 29, 3) := by decide +kernel
theorem dX9_note_74 : decode cX9_note 74 = .ok (.aload_n 0, 1) := by decide +kernel
theorem dX9_note_75 : decode cX9_note 75 = .ok (.dup, 1) := by decide +kernel
theorem dX9_note_76 : decode cX9_note 76 = .ok (.getfield 57, 3) := by decide +kernel
theorem dX9_note_79 : decode cX9_note 79 = .ok (.iconst 1, 1) := by decide +kernel
theorem dX9_note_80 : decode cX9_note 80 = .ok (.iload_n 1, 1) := by decide +kernel
theorem dX9_note_81 : decode cX9_note 81 = .ok (.sipush 1000, 3) := by decide +kernel
theorem dX9_note_84 : decode cX9_note 84 = .ok (.idiv, 1) := by decide +kernel
theorem dX9_note_85 : decode cX9_note 85 = .ok (.ishl, 1) := by decide +kernel
theorem dX9_note_86 : decode cX9_note 86 = .ok (.ior, 1) := by decide +kernel
theorem dX9_note_87 : decode cX9_note 87 = .ok (.putfield 57, 3) := by decide +kernel
theorem dX9_note_90 : decode cX9_note 90 = .ok (.return_, 1) := by decide +kernel
theorem dX9_stateAt_0 : decode cX9_stateAt 0 = .ok (.aload_n 0, 1) := by decide +kernel
theorem dX9_stateAt_1 : decode cX9_stateAt 1 = .ok (.getfield 9, 3) := by decide +kernel
theorem dX9_stateAt_4 : decode cX9_stateAt 4 = .ok (.iload_n 1, 1) := by decide +kernel
theorem dX9_stateAt_5 : decode cX9_stateAt 5 = .ok (.iaload, 1) := by decide +kernel
theorem dX9_stateAt_6 : decode cX9_stateAt 6 = .ok (.sipush 32767, 3) := by decide +kernel
theorem dX9_stateAt_9 : decode cX9_stateAt 9 = .ok (.iand, 1) := by decide +kernel
theorem dX9_stateAt_10 : decode cX9_stateAt 10 = .ok (.ireturn, 1) := by decide +kernel
theorem dX9_before_0 : decode cX9_before 0 = .ok (.aload_n 0, 1) := by decide +kernel
theorem dX9_before_1 : decode cX9_before 1 = .ok (.getfield 9, 3) := by decide +kernel
theorem dX9_before_4 : decode cX9_before 4 = .ok (.iload_n 1, 1) := by decide +kernel
theorem dX9_before_5 : decode cX9_before 5 = .ok (.iaload, 1) := by decide +kernel
theorem dX9_before_6 : decode cX9_before 6 = .ok (.bipush 15, 2) := by decide +kernel
theorem dX9_before_8 : decode cX9_before 8 = .ok (.ishr, 1) := by decide +kernel
theorem dX9_before_9 : decode cX9_before 9 = .ok (.ireturn, 1) := by decide +kernel
theorem dX9_stepOfWay_0 : decode cX9_stepOfWay 0 = .ok (.aload_n 0, 1) := by decide +kernel
theorem dX9_stepOfWay_1 : decode cX9_stepOfWay 1 = .ok (.getfield 44, 3) := by decide +kernel
theorem dX9_stepOfWay_4 : decode cX9_stepOfWay 4 = .ok (.istore_n 3, 1) := by decide +kernel
theorem dX9_stepOfWay_5 : decode cX9_stepOfWay 5 = .ok (.iload_n 2, 1) := by decide +kernel
theorem dX9_stepOfWay_6 : decode cX9_stepOfWay 6 = .ok (.iconst 1, 1) := by decide +kernel
theorem dX9_stepOfWay_7 : decode cX9_stepOfWay 7 = .ok (.isub, 1) := by decide +kernel
theorem dX9_stepOfWay_8 : decode cX9_stepOfWay 8 = .ok (.istore 4, 2) := by decide +kernel
theorem dX9_stepOfWay_10 : decode cX9_stepOfWay 10 = .ok (.iload 4, 2) := by decide +kernel
theorem dX9_stepOfWay_12 : decode cX9_stepOfWay 12 = .ok (.iload_n 1, 1) := by decide +kernel
theorem dX9_stepOfWay_13 : decode cX9_stepOfWay 13 = .ok (.if_icmp .le 15, 3) := by decide +kernel
theorem dX9_stepOfWay_16 : decode cX9_stepOfWay 16 = .ok (.aload_n 0, 1) := by decide +kernel
theorem dX9_stepOfWay_17 : decode cX9_stepOfWay 17 = .ok (.iload_n 3, 1) := by decide +kernel
theorem dX9_stepOfWay_18 : decode cX9_stepOfWay 18 = .ok (.invokevirtual 79, 3) := by decide +kernel
theorem dX9_stepOfWay_21 : decode cX9_stepOfWay 21 = .ok (.istore_n 3, 1) := by decide +kernel
theorem dX9_stepOfWay_22 : decode cX9_stepOfWay 22 = .ok (.iinc 4 (-1), 3) := by decide +kernel
theorem dX9_stepOfWay_25 : decode cX9_stepOfWay 25 = .ok (.goto (-15), 3) := by decide +kernel
theorem dX9_stepOfWay_28 : decode cX9_stepOfWay 28 = .ok (.aload_n 0, 1) := by decide +kernel
theorem dX9_stepOfWay_29 : decode cX9_stepOfWay 29 = .ok (.aload_n 0, 1) := by decide +kernel
theorem dX9_stepOfWay_30 : decode cX9_stepOfWay 30 = .ok (.iload_n 3, 1) := by decide +kernel
theorem dX9_stepOfWay_31 : decode cX9_stepOfWay 31 = .ok (.invokevirtual 79, 3) := by decide +kernel
theorem dX9_stepOfWay_34 : decode cX9_stepOfWay 34 = .ok (.invokevirtual 33, 3) := by decide +kernel
theorem dX9_stepOfWay_37 : decode cX9_stepOfWay 37 = .ok (.aload_n 0, 1) := by decide +kernel
theorem dX9_stepOfWay_38 : decode cX9_stepOfWay 38 = .ok (.iload_n 3, 1) := by decide +kernel
theorem dX9_stepOfWay_39 : decode cX9_stepOfWay 39 = .ok (.invokevirtual 33, 3) := by decide +kernel
theorem dX9_stepOfWay_42 : decode cX9_stepOfWay 42 = .ok (.invokestatic 82, 3) := by decide +kernel
theorem dX9_stepOfWay_45 : decode cX9_stepOfWay 45 = .ok (.ireturn, 1) := by decide +kernel
theorem dX9_stepBetween_0 : decode cX9_stepBetween 0 = .ok (.iload_n 0, 1) := by decide +kernel
theorem dX9_stepBetween_1 : decode cX9_stepBetween 1 = .ok (.istore_n 2, 1) := by decide +kernel
theorem dX9_stepBetween_2 : decode cX9_stepBetween 2 = .ok (.iload_n 1, 1) := by decide +kernel
theorem dX9_stepBetween_3 : decode cX9_stepBetween 3 = .ok (.istore_n 3, 1) := by decide +kernel
theorem dX9_stepBetween_4 : decode cX9_stepBetween 4 = .ok (.iconst 2, 1) := by decide +kernel
theorem dX9_stepBetween_5 : decode cX9_stepBetween 5 = .ok (.istore 4, 2) := by decide +kernel
theorem dX9_stepBetween_7 : decode cX9_stepBetween 7 = .ok (.iload 4, 2) := by decide +kernel
theorem dX9_stepBetween_9 : decode cX9_stepBetween 9 = .ok (.ifCond .lt 41, 3) := by decide +kernel
theorem dX9_stepBetween_12 : decode cX9_stepBetween 12 = .ok (.iload_n 2, 1) := by decide +kernel
theorem dX9_stepBetween_13 : decode cX9_stepBetween 13 = .ok (.bipush 10, 2) := by decide +kernel
theorem dX9_stepBetween_15 : decode cX9_stepBetween 15 = .ok (.irem, 1) := by decide +kernel
theorem dX9_stepBetween_16 : decode cX9_stepBetween 16 = .ok (.iload_n 3, 1) := by decide +kernel
theorem dX9_stepBetween_17 : decode cX9_stepBetween 17 = .ok (.bipush 10, 2) := by decide +kernel
theorem dX9_stepBetween_19 : decode cX9_stepBetween 19 = .ok (.irem, 1) := by decide +kernel
theorem dX9_stepBetween_20 : decode cX9_stepBetween 20 = .ok (.if_icmp .eq 14, 3) := by decide +kernel
theorem dX9_stepBetween_23 : decode cX9_stepBetween 23 = .ok (.bipush 10, 2) := by decide +kernel
theorem dX9_stepBetween_25 : decode cX9_stepBetween 25 = .ok (.iload 4, 2) := by decide +kernel
theorem dX9_stepBetween_27 : decode cX9_stepBetween 27 = .ok (.imul, 1) := by decide +kernel
theorem dX9_stepBetween_28 : decode cX9_stepBetween 28 = .ok (.iload_n 3, 1) := by decide +kernel
theorem dX9_stepBetween_29 : decode cX9_stepBetween 29 = .ok (.bipush 10, 2) := by decide +kernel
theorem dX9_stepBetween_31 : decode cX9_stepBetween 31 = .ok (.irem, 1) := by decide +kernel
theorem dX9_stepBetween_32 : decode cX9_stepBetween 32 = .ok (.iadd, 1) := by decide +kernel
theorem dX9_stepBetween_33 : decode cX9_stepBetween 33 = .ok (.ireturn, 1) := by decide +kernel
theorem dX9_stepBetween_34 : decode cX9_stepBetween 34 = .ok (.iload_n 2, 1) := by decide +kernel
theorem dX9_stepBetween_35 : decode cX9_stepBetween 35 = .ok (.bipush 10, 2) := by decide +kernel
theorem dX9_stepBetween_37 : decode cX9_stepBetween 37 = .ok (.idiv, 1) := by decide +kernel
theorem dX9_stepBetween_38 : decode cX9_stepBetween 38 = .ok (.istore_n 2, 1) := by decide +kernel
theorem dX9_stepBetween_39 : decode cX9_stepBetween 39 = .ok (.iload_n 3, 1) := by decide +kernel
theorem dX9_stepBetween_40 : decode cX9_stepBetween 40 = .ok (.bipush 10, 2) := by decide +kernel
theorem dX9_stepBetween_42 : decode cX9_stepBetween 42 = .ok (.idiv, 1) := by decide +kernel
theorem dX9_stepBetween_43 : decode cX9_stepBetween 43 = .ok (.istore_n 3, 1) := by decide +kernel
theorem dX9_stepBetween_44 : decode cX9_stepBetween 44 = .ok (.iinc 4 (-1), 3) := by decide +kernel
theorem dX9_stepBetween_47 : decode cX9_stepBetween 47 = .ok (.goto (-40), 3) := by decide +kernel
theorem dX9_stepBetween_50 : decode cX9_stepBetween 50 = .ok (.iconst (-1), 1) := by decide +kernel
theorem dX9_stepBetween_51 : decode cX9_stepBetween 51 = .ok (.ireturn, 1) := by decide +kernel
theorem dX10_init_0 : decode cX10_init 0 = .ok (.aload_n 0, 1) := by decide +kernel
theorem dX10_init_1 : decode cX10_init 1 = .ok (.invokespecial 3, 3) := by decide +kernel
theorem dX10_init_4 : decode cX10_init 4 = .ok (.aload_n 0, 1) := by decide +kernel
theorem dX10_init_5 : decode cX10_init 5 = .ok (.sipush 200, 3) := by decide +kernel
theorem dX10_init_8 : decode cX10_init 8 = .ok (.newarray .int, 2) := by decide +kernel
theorem dX10_init_10 : decode cX10_init 10 = .ok (.putfield 9, 3) := by decide +kernel
theorem dX10_init_13 : decode cX10_init 13 = .ok (.return_, 1) := by decide +kernel
theorem dX10_append_0 : decode cX10_append 0 = .ok (.iload_n 3, 1) := by decide +kernel
theorem dX10_append_1 : decode cX10_append 1 = .ok (.iconst 1, 1) := by decide +kernel
theorem dX10_append_2 : decode cX10_append 2 = .ok (.if_icmp .lt 9, 3) := by decide +kernel
theorem dX10_append_5 : decode cX10_append 5 = .ok (.iload_n 3, 1) := by decide +kernel
theorem dX10_append_6 : decode cX10_append 6 = .ok (.bipush 8, 2) := by decide +kernel
theorem dX10_append_8 : decode cX10_append 8 = .ok (.if_icmp .le 6, 3) := by decide +kernel
theorem dX10_append_11 : decode cX10_append 11 = .ok (.bipush (-2), 2) := by decide +kernel
theorem dX10_append_13 : decode cX10_append 13 = .ok (.ireturn, 1) := by decide +kernel
theorem dX10_append_14 : decode cX10_append 14 = .ok (.aload_n 0, 1) := by decide +kernel
theorem dX10_append_15 : decode cX10_append 15 = .ok (.getfield 15, 3) := by decide +kernel
theorem dX10_append_18 : decode cX10_append 18 = .ok (.iload_n 3, 1) := by decide +kernel
theorem dX10_append_19 : decode cX10_append 19 = .ok (.iadd, 1) := by decide +kernel
theorem dX10_append_20 : decode cX10_append 20 = .ok (.sipush 200, 3) := by decide +kernel
theorem dX10_append_23 : decode cX10_append 23 = .ok (.if_icmp .le 6, 3) := by decide +kernel
theorem dX10_append_26 : decode cX10_append 26 = .ok (.bipush (-4), 2) := by decide +kernel
theorem dX10_append_28 : decode cX10_append 28 = .ok (.ireturn, 1) := by decide +kernel
theorem dX10_append_29 : decode cX10_append 29 = .ok (.iload_n 3, 1) := by decide +kernel
theorem dX10_append_30 : decode cX10_append 30 = .ok (.iconst 1, 1) := by decide +kernel
theorem dX10_append_31 : decode cX10_append 31 = .ok (.isub, 1) := by decide +kernel
theorem dX10_append_32 : decode cX10_append 32 = .ok (.istore 4, 2) := by decide +kernel
theorem dX10_append_34 : decode cX10_append 34 = .ok (.iload 4, 2) := by decide +kernel
theorem dX10_append_36 : decode cX10_append 36 = .ok (.ifCond .lt 40, 3) := by decide +kernel
theorem dX10_append_39 : decode cX10_append 39 = .ok (.aload_n 0, 1) := by decide +kernel
theorem dX10_append_40 : decode cX10_append 40 = .ok (.getfield 9, 3) := by decide +kernel
theorem dX10_append_43 : decode cX10_append 43 = .ok (.aload_n 0, 1) := by decide +kernel
theorem dX10_append_44 : decode cX10_append 44 = .ok (.getfield 15, 3) := by decide +kernel
theorem dX10_append_47 : decode cX10_append 47 = .ok (.lload_n 1, 1) := by decide +kernel
theorem dX10_append_48 : decode cX10_append 48 = .ok (.bipush 8, 2) := by decide +kernel
theorem dX10_append_50 : decode cX10_append 50 = .ok (.iload 4, 2) := by decide +kernel
theorem dX10_append_52 : decode cX10_append 52 = .ok (.imul, 1) := by decide +kernel
theorem dX10_append_53 : decode cX10_append 53 = .ok (.lushr, 1) := by decide +kernel
theorem dX10_append_54 : decode cX10_append 54 = .ok (.ldc2_w 19, 3) := by decide +kernel
theorem dX10_append_57 : decode cX10_append 57 = .ok (.land, 1) := by decide +kernel
theorem dX10_append_58 : decode cX10_append 58 = .ok (.l2i, 1) := by decide +kernel
theorem dX10_append_59 : decode cX10_append 59 = .ok (.iastore, 1) := by decide +kernel
theorem dX10_append_60 : decode cX10_append 60 = .ok (.aload_n 0, 1) := by decide +kernel
theorem dX10_append_61 : decode cX10_append 61 = .ok (.dup, 1) := by decide +kernel
theorem dX10_append_62 : decode cX10_append 62 = .ok (.getfield 15, 3) := by decide +kernel
theorem dX10_append_65 : decode cX10_append 65 = .ok (.iconst 1, 1) := by decide +kernel
theorem dX10_append_66 : decode cX10_append 66 = .ok (.iadd, 1) := by decide +kernel
theorem dX10_append_67 : decode cX10_append 67 = .ok (.putfield 15, 3) := by decide +kernel
theorem dX10_append_70 : decode cX10_append 70 = .ok (.iinc 4 (-1), 3) := by decide +kernel
theorem dX10_append_73 : decode cX10_append 73 = .ok (.goto (-39), 3) := by decide +kernel
theorem dX10_append_76 : decode cX10_append 76 = .ok (.aload_n 0, 1) := by decide +kernel
theorem dX10_append_77 : decode cX10_append 77 = .ok (.getfield 15, 3) := by decide +kernel
theorem dX10_append_80 : decode cX10_append 80 = .ok (.ireturn, 1) := by decide +kernel
theorem dX10_wipe_0 : decode cX10_wipe 0 = .ok (.aload_n 0, 1) := by decide +kernel
theorem dX10_wipe_1 : decode cX10_wipe 1 = .ok (.getfield 15, 3) := by decide +kernel
theorem dX10_wipe_4 : decode cX10_wipe 4 = .ok (.istore_n 1, 1) := by decide +kernel
theorem dX10_wipe_5 : decode cX10_wipe 5 = .ok (.aload_n 0, 1) := by decide +kernel
theorem dX10_wipe_6 : decode cX10_wipe 6 = .ok (.iconst 0, 1) := by decide +kernel
theorem dX10_wipe_7 : decode cX10_wipe 7 = .ok (.putfield 15, 3) := by decide +kernel
theorem dX10_wipe_10 : decode cX10_wipe 10 = .ok (.iload_n 1, 1) := by decide +kernel
theorem dX10_wipe_11 : decode cX10_wipe 11 = .ok (.ireturn, 1) := by decide +kernel
theorem dX10_lookAtFirst_0 : decode cX10_lookAtFirst 0 = .ok (.aload_n 0, 1) := by decide +kernel
theorem dX10_lookAtFirst_1 : decode cX10_lookAtFirst 1 = .ok (.iconst 0, 1) := by decide +kernel
theorem dX10_lookAtFirst_2 : decode cX10_lookAtFirst 2 = .ok (.putfield 21, 3) := by decide +kernel
theorem dX10_lookAtFirst_5 : decode cX10_lookAtFirst 5 = .ok (.aload_n 0, 1) := by decide +kernel
theorem dX10_lookAtFirst_6 : decode cX10_lookAtFirst 6 = .ok (.invokevirtual 24, 3) := by decide +kernel
theorem dX10_lookAtFirst_9 : decode cX10_lookAtFirst 9 = .ok (.return_, 1) := by decide +kernel
theorem dX10_lookAtNext_0 : decode cX10_lookAtNext 0 = .ok (.aload_n 0, 1) := by decide +kernel
theorem dX10_lookAtNext_1 : decode cX10_lookAtNext 1 = .ok (.aload_n 0, 1) := by decide +kernel
theorem dX10_lookAtNext_2 : decode cX10_lookAtNext 2 = .ok (.getfield 21, 3) := by decide +kernel
theorem dX10_lookAtNext_5 : decode cX10_lookAtNext 5 = .ok (.putfield 27, 3) := by decide +kernel
theorem dX10_lookAtNext_8 : decode cX10_lookAtNext 8 = .ok (.aload_n 0, 1) := by decide +kernel
theorem dX10_lookAtNext_9 : decode cX10_lookAtNext 9 = .ok (.getfield 27, 3) := by decide +kernel
theorem dX10_lookAtNext_12 : decode cX10_lookAtNext 12 = .ok (.aload_n 0, 1) := by decide +kernel
theorem dX10_lookAtNext_13 : decode cX10_lookAtNext 13 = .ok (.getfield 15, 3) := by decide +kernel
theorem dX10_lookAtNext_16 : decode cX10_lookAtNext 16 = .ok (.if_icmp .ge 30, 3) := by decide +kernel
theorem dX10_lookAtNext_19 : decode cX10_lookAtNext 19 = .ok (.aload_n 0, 1) := by decide +kernel
theorem dX10_lookAtNext_20 : decode cX10_lookAtNext 20 = .ok (.getfield 9, 3) := by decide +kernel
theorem dX10_lookAtNext_23 : decode cX10_lookAtNext 23 = .ok (.aload_n 0, 1) := by decide +kernel
theorem dX10_lookAtNext_24 : decode cX10_lookAtNext 24 = .ok (.getfield 27, 3) := by decide +kernel
theorem dX10_lookAtNext_27 : decode cX10_lookAtNext 27 = .ok (.iaload, 1) := by decide +kernel
theorem dX10_lookAtNext_28 : decode cX10_lookAtNext 28 = .ok (.bipush 32, 2) := by decide +kernel
theorem dX10_lookAtNext_30 : decode cX10_lookAtNext 30 = .ok (.if_icmp .ne 16, 3) := by decide +kernel
theorem dX10_lookAtNext_33 : decode cX10_lookAtNext 33 = .ok (.aload_n 0, 1) := by decide +kernel
theorem dX10_lookAtNext_34 : decode cX10_lookAtNext 34 = .ok (.dup, 1) := by decide +kernel
theorem dX10_lookAtNext_35 : decode cX10_lookAtNext 35 = .ok (.getfield 27, 3) := by decide +kernel
theorem dX10_lookAtNext_38 : decode cX10_lookAtNext 38 = .ok (.iconst 1, 1) := by decide +kernel
theorem dX10_lookAtNext_39 : decode cX10_lookAtNext 39 = .ok (.iadd, 1) := by decide +kernel
theorem dX10_lookAtNext_40 : decode cX10_lookAtNext 40 = .ok (.putfield 27, 3) := by decide +kernel
theorem dX10_lookAtNext_43 : decode cX10_lookAtNext 43 = .ok (.goto (-35), 3) := by decide +kernel
theorem dX10_lookAtNext_46 : decode cX10_lookAtNext 46 = .ok (.aload_n 0, 1) := by decide +kernel
theorem dX10_lookAtNext_47 : decode cX10_lookAtNext 47 = .ok (.aload_n 0, 1) := by decide +kernel
theorem dX10_lookAtNext_48 : decode cX10_lookAtNext 48 = .ok (.getfield 27, 3) := by decide +kernel
theorem dX10_lookAtNext_51 : decode cX10_lookAtNext 51 = .ok (.putfield 21, 3) := by decide +kernel
theorem dX10_lookAtNext_54 : decode cX10_lookAtNext 54 = .ok (.aload_n 0, 1) := by decide +kernel
theorem dX10_lookAtNext_55 : decode cX10_lookAtNext 55 = .ok (.getfield 27, 3) := by decide +kernel
theorem dX10_lookAtNext_58 : decode cX10_lookAtNext 58 = .ok (.aload_n 0, 1) := by decide +kernel
theorem dX10_lookAtNext_59 : decode cX10_lookAtNext 59 = .ok (.getfield 15, 3) := by decide +kernel
theorem dX10_lookAtNext_62 : decode cX10_lookAtNext 62 = .ok (.if_icmp .ne 11, 3) := by decide +kernel
theorem dX10_lookAtNext_65 : decode cX10_lookAtNext 65 = .ok (.aload_n 0, 1) := by decide +kernel
theorem dX10_lookAtNext_66 : decode cX10_lookAtNext 66 = .ok (.iconst 0, 1) := by decide +kernel
theorem dX10_lookAtNext_67 : decode cX10_lookAtNext 67 = .ok (.putfield 30, 3) := by decide +kernel
theorem dX10_lookAtNext_70 : decode cX10_lookAtNext 70 = .ok (.goto 80, 3) := by decide +kernel
theorem dX10_lookAtNext_73 : decode cX10_lookAtNext 73 = .ok (.aload_n 0, 1) := by decide +kernel
theorem dX10_lookAtNext_74 : decode cX10_lookAtNext 74 = .ok (.getfield 9, 3) := by decide +kernel
theorem dX10_lookAtNext_77 : decode cX10_lookAtNext 77 = .ok (.aload_n 0, 1) := by decide +kernel
theorem dX10_lookAtNext_78 : decode cX10_lookAtNext 78 = .ok (.getfield 27, 3) := by decide +kernel
theorem dX10_lookAtNext_81 : decode cX10_lookAtNext 81 = .ok (.iaload, 1) := by decide +kernel
theorem dX10_lookAtNext_82 : decode cX10_lookAtNext 82 = .ok (.invokestatic 33, 3) := by decide +kernel
theorem dX10_lookAtNext_85 : decode cX10_lookAtNext 85 = .ok (.ifCond .eq 10, 3) := by decide +kernel
theorem dX10_lookAtNext_88 : decode cX10_lookAtNext 88 = .ok (.aload_n 0, 1) := by decide +kernel
theorem dX10_lookAtNext_89 : decode cX10_lookAtNext 89 = .ok (.invokevirtual 37, 3) := by decide +kernel
theorem dX10_lookAtNext_92 : decode cX10_lookAtNext 92 = .ok (.goto 58, 3) := by decide +kernel
theorem dX10_lookAtNext_95 : decode cX10_lookAtNext 95 = .ok (.aload_n 0, 1) := by decide +kernel
theorem dX10_lookAtNext_96 : decode cX10_lookAtNext 96 = .ok (.getfield 9, 3) := by decide +kernel
theorem dX10_lookAtNext_99 : decode cX10_lookAtNext 99 = .ok (.aload_n 0, 1) := by decide +kernel
theorem dX10_lookAtNext_100 : decode cX10_lookAtNext 100 = .ok (.getfield 27, 3) := by decide +kernel
theorem dX10_lookAtNext_103 : decode cX10_lookAtNext 103 = .ok (.iaload, 1) := by decide +kernel
theorem dX10_lookAtNext_104 : decode cX10_lookAtNext 104 = .ok (.invokestatic 40, 3) := by decide +kernel
theorem dX10_lookAtNext_107 : decode cX10_lookAtNext 107 = .ok (.ifCond .eq 10, 3) := by decide +kernel
theorem dX10_lookAtNext_110 : decode cX10_lookAtNext 110 = .ok (.aload_n 0, 1) := by decide +kernel
theorem dX10_lookAtNext_111 : decode cX10_lookAtNext 111 = .ok (.invokevirtual 43, 3) := by decide +kernel
theorem dX10_lookAtNext_114 : decode cX10_lookAtNext 114 = .ok (.goto 36, 3) := by decide +kernel
theorem dX10_lookAtNext_117 : decode cX10_lookAtNext 117 = .ok (.aload_n 0, 1) := by decide +kernel
theorem dX10_lookAtNext_118 : decode cX10_lookAtNext 118 = .ok (.dup, 1) := by decide +kernel
theorem dX10_lookAtNext_119 : decode cX10_lookAtNext 119 = .ok (.getfield 21, 3) := by decide +kernel
theorem dX10_lookAtNext_122 : decode cX10_lookAtNext 122 = .ok (.iconst 1, 1) := by decide +kernel
theorem dX10_lookAtNext_123 : decode cX10_lookAtNext 123 = .ok (.iadd, 1) := by decide +kernel
theorem dX10_lookAtNext_124 : decode cX10_lookAtNext 124 = .ok (.putfield 21, 3) := by decide +kernel
theorem dX10_lookAtNext_127 : decode cX10_lookAtNext 127 = .ok (.aload_n 0, 1) := by decide +kernel
theorem dX10_lookAtNext_128 : decode cX10_lookAtNext 128 = .ok (.aload_n 0, 1) := by decide +kernel
theorem dX10_lookAtNext_129 : decode cX10_lookAtNext 129 = .ok (.getfield 9, 3) := by decide +kernel
theorem dX10_lookAtNext_132 : decode cX10_lookAtNext 132 = .ok (.aload_n 0, 1) := by decide +kernel
theorem dX10_lookAtNext_133 : decode cX10_lookAtNext 133 = .ok (.getfield 27, 3) := by decide +kernel
theorem dX10_lookAtNext_136 : decode cX10_lookAtNext 136 = .ok (.iaload, 1) := by decide +kernel
theorem dX10_lookAtNext_137 : decode cX10_lookAtNext 137 = .ok (.bipush 59, 2) := by decide +kernel
theorem dX10_lookAtNext_139 : decode cX10_lookAtNext 139 = .ok (.if_icmp .ne 7, 3) := by decide +kernel
theorem dX10_lookAtNext_142 : decode cX10_lookAtNext 142 = .ok (.iconst 3, 1) := by decide +kernel
theorem dX10_lookAtNext_143 : decode cX10_lookAtNext 143 = .ok (.goto 4, 3) := by decide +kernel
theorem dX10_lookAtNext_146 : decode cX10_lookAtNext 146 = .ok (.iconst 4, 1) := by decide +kernel
theorem dX10_lookAtNext_147 : decode cX10_lookAtNext 147 = .ok (.putfield 30, 3) := by decide +kernel
theorem dX10_lookAtNext_150 : decode cX10_lookAtNext 150 = .ok (.return_, 1) := by decide +kernel
theorem dX10_takeWord_0 : decode cX10_takeWord 0 = .ok (.aload_n 0, 1) := by decide +kernel
theorem dX10_takeWord_1 : decode cX10_takeWord 1 = .ok (.getfield 21, 3) := by decide +kernel
theorem dX10_takeWord_4 : decode cX10_takeWord 4 = .ok (.aload_n 0, 1) := by decide +kernel
theorem dX10_takeWord_5 : decode cX10_takeWord 5 = .ok (.getfield 15, 3) := by decide +kernel
theorem dX10_takeWord_8 : decode cX10_takeWord 8 = .ok (.if_icmp .ge 31, 3) := by decide +kernel
theorem dX10_takeWord_11 : decode cX10_takeWord 11 = .ok (.aload_n 0, 1) := by decide +kernel
theorem dX10_takeWord_12 : decode cX10_takeWord 12 = .ok (.getfield 9, 3) := by decide +kernel
theorem dX10_takeWord_15 : decode cX10_takeWord 15 = .ok (.aload_n 0, 1) := by decide +kernel
theorem dX10_takeWord_16 : decode cX10_takeWord 16 = .ok (.getfield 21, 3) := by decide +kernel
theorem dX10_takeWord_19 : decode cX10_takeWord 19 = .ok (.iaload, 1) := by decide +kernel
theorem dX10_takeWord_20 : decode cX10_takeWord 20 = .ok (.invokestatic 33, 3) := by decide +kernel
theorem dX10_takeWord_23 : decode cX10_takeWord 23 = .ok (.ifCond .eq 16, 3) := by decide +kernel
theorem dX10_takeWord_26 : decode cX10_takeWord 26 = .ok (.aload_n 0, 1) := by decide +kernel
theorem dX10_takeWord_27 : decode cX10_takeWord 27 = .ok (.dup, 1) := by decide +kernel
theorem dX10_takeWord_28 : decode cX10_takeWord 28 = .ok (.getfield 21, 3) := by decide +kernel
theorem dX10_takeWord_31 : decode cX10_takeWord 31 = .ok (.iconst 1, 1) := by decide +kernel
theorem dX10_takeWord_32 : decode cX10_takeWord 32 = .ok (.iadd, 1) := by decide +kernel
theorem dX10_takeWord_33 : decode cX10_takeWord 33 = .ok (.putfield 21, 3) := by decide +kernel
theorem dX10_takeWord_36 : decode cX10_takeWord 36 = .ok (.goto (-36), 3) := by decide +kernel
theorem dX10_takeWord_39 : decode cX10_takeWord 39 = .ok (.aload_n 0, 1) := by decide +kernel
theorem dX10_takeWord_40 : decode cX10_takeWord 40 = .ok (.aload_n 0, 1) := by decide +kernel
theorem dX10_takeWord_41 : decode cX10_takeWord 41 = .ok (.invokevirtual 46, 3) := by decide +kernel
theorem dX10_takeWord_44 : decode cX10_takeWord 44 = .ok (.putfield 50, 3) := by decide +kernel
theorem dX10_takeWord_47 : decode cX10_takeWord 47 = .ok (.aload_n 0, 1) := by decide +kernel
theorem dX10_takeWord_48 : decode cX10_takeWord 48 = .ok (.aload_n 0, 1) := by decide +kernel
theorem dX10_takeWord_49 : decode cX10_takeWord 49 = .ok (.getfield 50, 3) := by decide +kernel
theorem dX10_takeWord_52 : decode cX10_takeWord 52 = .ok (.iconst (-1), 1) := by decide +kernel
theorem dX10_takeWord_53 : decode cX10_takeWord 53 = .ok (.if_icmp .ne 7, 3) := by decide +kernel
theorem dX10_takeWord_56 : decode cX10_takeWord 56 = .ok (.iconst 4, 1) := by decide +kernel
theorem dX10_takeWord_57 : decode cX10_takeWord 57 = .ok (.goto 4, 3) := by decide +kernel
theorem dX10_takeWord_60 : decode cX10_takeWord 60 = .ok (.iconst 1, 1) := by decide +kernel
theorem dX10_takeWord_61 : decode cX10_takeWord 61 = .ok (.putfield 30, 3) := by decide +kernel
theorem dX10_takeWord_64 : decode cX10_takeWord 64 = .ok (.return_, 1) := by decide +kernel
theorem dX10_takeNumber_0 : decode cX10_takeNumber 0 = .ok (.aload_n 0, 1) := by decide +kernel
theorem dX10_takeNumber_1 : decode cX10_takeNumber 1 = .ok (.iconst 0, 1) := by decide +kernel
theorem dX10_takeNumber_2 : decode cX10_takeNumber 2 = .ok (.putfield 50, 3) := by decide +kernel
theorem dX10_takeNumber_5 : decode cX10_takeNumber 5 = .ok (.aload_n 0, 1) := by decide +kernel
theorem dX10_takeNumber_6 : decode cX10_takeNumber 6 = .ok (.iconst 2, 1) := by decide +kernel
theorem dX10_takeNumber_7 : decode cX10_takeNumber 7 = .ok (.putfield 30, 3) := by decide +kernel
theorem dX10_takeNumber_10 : decode cX10_takeNumber 10 = .ok (.aload_n 0, 1) := by decide +kernel
theorem dX10_takeNumber_11 : decode cX10_takeNumber 11 = .ok (.getfield 21, 3) := by decide +kernel
theorem dX10_takeNumber_14 : decode cX10_takeNumber 14 = .ok (.aload_n 0, 1) := by decide +kernel
theorem dX10_takeNumber_15 : decode cX10_takeNumber 15 = .ok (.getfield 15, 3) := by decide +kernel
theorem dX10_takeNumber_18 : decode cX10_takeNumber 18 = .ok (.if_icmp .ge 71, 3) := by decide +kernel
theorem dX10_takeNumber_21 : decode cX10_takeNumber 21 = .ok (.aload_n 0, 1) := by decide +kernel
theorem dX10_takeNumber_22 : decode cX10_takeNumber 22 = .ok (.getfield 9, 3) := by decide +kernel
theorem dX10_takeNumber_25 : decode cX10_takeNumber 25 = .ok (.aload_n 0, 1) := by decide +kernel
theorem dX10_takeNumber_26 : decode cX10_takeNumber 26 = .ok (.getfield 21, 3) := by decide +kernel
theorem dX10_takeNumber_29 : decode cX10_takeNumber 29 = .ok (.iaload, 1) := by decide +kernel
theorem dX10_takeNumber_30 : decode cX10_takeNumber 30 = .ok (.invokestatic 40, 3) := by decide +kernel
theorem dX10_takeNumber_33 : decode cX10_takeNumber 33 = .ok (.ifCond .eq 56, 3) := by decide +kernel
theorem dX10_takeNumber_36 : decode cX10_takeNumber 36 = .ok (.aload_n 0, 1) := by decide +kernel
theorem dX10_takeNumber_37 : decode cX10_takeNumber 37 = .ok (.bipush 10, 2) := by decide +kernel
theorem dX10_takeNumber_39 : decode cX10_takeNumber 39 = .ok (.aload_n 0, 1) := by decide +kernel
theorem dX10_takeNumber_40 : decode cX10_takeNumber 40 = .ok (.getfield 50, 3) := by decide +kernel
theorem dX10_takeNumber_43 : decode cX10_takeNumber 43 = .ok (.imul, 1) := by decide +kernel
theorem dX10_takeNumber_44 : decode cX10_takeNumber 44 = .ok (.aload_n 0, 1) := by decide +kernel
theorem dX10_takeNumber_45 : decode cX10_takeNumber 45 = .ok (.getfield 9, 3) := by decide +kernel
theorem dX10_takeNumber_48 : decode cX10_takeNumber 48 = .ok (.aload_n 0, 1) := by decide +kernel
theorem dX10_takeNumber_49 : decode cX10_takeNumber 49 = .ok (.getfield 21, 3) := by decide +kernel
theorem dX10_takeNumber_52 : decode cX10_takeNumber 52 = .ok (.iaload, 1) := by decide +kernel
theorem dX10_takeNumber_53 : decode cX10_takeNumber 53 = .ok (.iadd, 1) := by decide +kernel
theorem dX10_takeNumber_54 : decode cX10_takeNumber 54 = .ok (.bipush 48, 2) := by decide +kernel
theorem dX10_takeNumber_56 : decode cX10_takeNumber 56 = .ok (.isub, 1) := by decide +kernel
theorem dX10_takeNumber_57 : decode cX10_takeNumber 57 = .ok (.putfield 50, 3) := by decide +kernel
theorem dX10_takeNumber_60 : decode cX10_takeNumber 60 = .ok (.aload_n 0, 1) := by decide +kernel
theorem dX10_takeNumber_61 : decode cX10_takeNumber 61 = .ok (.dup, 1) := by decide +kernel
theorem dX10_takeNumber_62 : decode cX10_takeNumber 62 = .ok (.getfield 21, 3) := by decide +kernel
theorem dX10_takeNumber_65 : decode cX10_takeNumber 65 = .ok (.iconst 1, 1) := by decide +kernel
theorem dX10_takeNumber_66 : decode cX10_takeNumber 66 = .ok (.iadd, 1) := by decide +kernel
theorem dX10_takeNumber_67 : decode cX10_takeNumber 67 = .ok (.putfield 21, 3) := by decide +kernel
theorem dX10_takeNumber_70 : decode cX10_takeNumber 70 = .ok (.aload_n 0, 1) := by decide +kernel
theorem dX10_takeNumber_71 : decode cX10_takeNumber 71 = .ok (.getfield 21, 3) := by decide +kernel
theorem dX10_takeNumber_74 : decode cX10_takeNumber 74 = .ok (.aload_n 0, 1) := by decide +kernel
theorem dX10_takeNumber_75 : decode cX10_takeNumber 75 = .ok (.getfield 27, 3) := by decide +kernel
theorem dX10_takeNumber_78 : decode cX10_takeNumber 78 = .ok (.isub, 1) := by decide +kernel
theorem dX10_takeNumber_79 : decode cX10_takeNumber 79 = .ok (.iconst 2, 1) := by decide +kernel
theorem dX10_takeNumber_80 : decode cX10_takeNumber 80 = .ok (.if_icmp .le (-70), 3) := by decide +kernel
theorem dX10_takeNumber_83 : decode cX10_takeNumber 83 = .ok (.aload_n 0, 1) := by decide +kernel
theorem dX10_takeNumber_84 : decode cX10_takeNumber 84 = .ok (.iconst 4, 1) := by decide +kernel
theorem dX10_takeNumber_85 : decode cX10_takeNumber 85 = .ok (.putfield 30, 3) := by decide +kernel
theorem dX10_takeNumber_88 : decode cX10_takeNumber 88 = .ok (.return_, 1) := by decide +kernel
theorem dX10_takeNumber_89 : decode cX10_takeNumber 89 = .ok (.return_, 1) := by decide +kernel
theorem dX10_itemOfWord_0 : decode cX10_itemOfWord 0 = .ok (.aload_n 0, 1) := by decide +kernel
theorem dX10_itemOfWord_1 : decode cX10_itemOfWord 1 = .ok (.ldc 53, 2) := by decide +kernel
theorem dX10_itemOfWord_3 : decode cX10_itemOfWord 3 = .ok (.invokevirtual 55, 3) := by decide +kernel
theorem dX10_itemOfWord_6 : decode cX10_itemOfWord 6 = .ok (.ifCond .eq 5, 3) := by decide +kernel
theorem dX10_itemOfWord_9 : decode cX10_itemOfWord 9 = .ok (.iconst 0, 1) := by decide +kernel
theorem dX10_itemOfWord_10 : decode cX10_itemOfWord 10 = .ok (.ireturn, 1) := by decide +kernel
theorem dX10_itemOfWord_11 : decode cX10_itemOfWord 11 = .ok (.aload_n 0, 1) := by decide +kernel
theorem dX10_itemOfWord_12 : decode cX10_itemOfWord 12 = .ok (.ldc 61, 2) := by decide +kernel
theorem dX10_itemOfWord_14 : decode cX10_itemOfWord 14 = .ok (.invokevirtual 55, 3) := by decide +kernel
theorem dX10_itemOfWord_17 : decode cX10_itemOfWord 17 = .ok (.ifCond .eq 5, 3) := by decide +kernel
theorem dX10_itemOfWord_20 : decode cX10_itemOfWord 20 = .ok (.iconst 1, 1) := by decide +kernel
theorem dX10_itemOfWord_21 : decode cX10_itemOfWord 21 = .ok (.ireturn, 1) := by decide +kernel
theorem dX10_itemOfWord_22 : decode cX10_itemOfWord 22 = .ok (.aload_n 0, 1) := by decide +kernel
theorem dX10_itemOfWord_23 : decode cX10_itemOfWord 23 = .ok (.ldc 63, 2) := by decide +kernel
theorem dX10_itemOfWord_25 : decode cX10_itemOfWord 25 = .ok (.invokevirtual 55, 3) := by decide +kernel
theorem dX10_itemOfWord_28 : decode cX10_itemOfWord 28 = .ok (.ifCond .eq 5, 3) := by decide +kernel
theorem dX10_itemOfWord_31 : decode cX10_itemOfWord 31 = .ok (.iconst 2, 1) := by decide +kernel
theorem dX10_itemOfWord_32 : decode cX10_itemOfWord 32 = .ok (.ireturn, 1) := by decide +kernel
theorem dX10_itemOfWord_33 : decode cX10_itemOfWord 33 = .ok (.aload_n 0, 1) := by decide +kernel
theorem dX10_itemOfWord_34 : decode cX10_itemOfWord 34 = .ok (.ldc 65, 2) := by decide +kernel
theorem dX10_itemOfWord_36 : decode cX10_itemOfWord 36 = .ok (.invokevirtual 55, 3) := by decide +kernel
theorem dX10_itemOfWord_39 : decode cX10_itemOfWord 39 = .ok (.ifCond .eq 5, 3) := by decide +kernel
theorem dX10_itemOfWord_42 : decode cX10_itemOfWord 42 = .ok (.iconst 3, 1) := by decide +kernel
theorem dX10_itemOfWord_43 : decode cX10_itemOfWord 43 = .ok (.ireturn, 1) := by decide +kernel
theorem dX10_itemOfWord_44 : decode cX10_itemOfWord 44 = .ok (.aload_n 0, 1) := by decide +kernel
theorem dX10_itemOfWord_45 : decode cX10_itemOfWord 45 = .ok (.ldc 67, 2) := by decide +kernel
theorem dX10_itemOfWord_47 : decode cX10_itemOfWord 47 = .ok (.invokevirtual 55, 3) := by decide +kernel
theorem dX10_itemOfWord_50 : decode cX10_itemOfWord 50 = .ok (.ifCond .eq 7, 3) := by decide +kernel
theorem dX10_itemOfWord_53 : decode cX10_itemOfWord 53 = .ok (.iconst 4, 1) := by decide +kernel
theorem dX10_itemOfWord_54 : decode cX10_itemOfWord 54 = .ok (.goto 4, 3) := by decide +kernel
theorem dX10_itemOfWord_57 : decode cX10_itemOfWord 57 = .ok (.iconst (-1), 1) := by decide +kernel
theorem dX10_itemOfWord_58 : decode cX10_itemOfWord 58 = .ok (.ireturn, 1) := by decide +kernel
theorem dX10_isWord_0 : decode cX10_isWord 0 = .ok (.aload_n 1, 1) := by decide +kernel
theorem dX10_isWord_1 : decode cX10_isWord 1 = .ok (.invokevirtual 69, 3) := by decide +kernel
theorem dX10_isWord_4 : decode cX10_isWord 4 = .ok (.aload_n 0, 1) := by decide +kernel
theorem dX10_isWord_5 : decode cX10_isWord 5 = .ok (.getfield 21, 3) := by decide +kernel
theorem dX10_isWord_8 : decode cX10_isWord 8 = .ok (.aload_n 0, 1) := by decide +kernel
theorem dX10_isWord_9 : decode cX10_isWord 9 = .ok (.getfield 27, 3) := by decide +kernel
theorem dX10_isWord_12 : decode cX10_isWord 12 = .ok (.isub, 1) := by decide +kernel
theorem dX10_isWord_13 : decode cX10_isWord 13 = .ok (.if_icmp .eq 5, 3) := by decide +kernel
theorem dX10_isWord_16 : decode cX10_isWord 16 = .ok (.iconst 0, 1) := by decide +kernel
theorem dX10_isWord_17 : decode cX10_isWord 17 = .ok (.ireturn, 1) := by decide +kernel
theorem dX10_isWord_18 : decode cX10_isWord 18 = .ok (.iconst 0, 1) := by decide +kernel
theorem dX10_isWord_19 : decode cX10_isWord 19 = .ok (.istore_n 2, 1) := by decide +kernel
theorem dX10_isWord_20 : decode cX10_isWord 20 = .ok (.iload_n 2, 1) := by decide +kernel
theorem dX10_isWord_21 : decode cX10_isWord 21 = .ok (.aload_n 1, 1) := by decide +kernel
theorem dX10_isWord_22 : decode cX10_isWord 22 = .ok (.invokevirtual 69, 3) := by decide +kernel
theorem dX10_isWord_25 : decode cX10_isWord 25 = .ok (.if_icmp .ge 30, 3) := by decide +kernel
theorem dX10_isWord_28 : decode cX10_isWord 28 = .ok (.aload_n 1, 1) := by decide +kernel
theorem dX10_isWord_29 : decode cX10_isWord 29 = .ok (.iload_n 2, 1) := by decide +kernel
theorem dX10_isWord_30 : decode cX10_isWord 30 = .ok (.invokevirtual 73, 3) := by decide +kernel
theorem dX10_isWord_33 : decode cX10_isWord 33 = .ok (.aload_n 0, 1) := by decide +kernel
theorem dX10_isWord_34 : decode cX10_isWord 34 = .ok (.getfield 9, 3) := by decide +kernel
theorem dX10_isWord_37 : decode cX10_isWord 37 = .ok (.aload_n 0, 1) := by decide +kernel
theorem dX10_isWord_38 : decode cX10_isWord 38 = .ok (.getfield 27, 3) := by decide +kernel
theorem dX10_isWord_41 : decode cX10_isWord 41 = .ok (.iload_n 2, 1) := by decide +kernel
theorem dX10_isWord_42 : decode cX10_isWord 42 = .ok (.iadd, 1) := by decide +kernel
theorem dX10_isWord_43 : decode cX10_isWord 43 = .ok (.iaload, 1) := by decide +kernel
theorem dX10_isWord_44 : decode cX10_isWord 44 = .ok (.if_icmp .eq 5, 3) := by decide +kernel
theorem dX10_isWord_47 : decode cX10_isWord 47 = .ok (.iconst 0, 1) := by decide +kernel
theorem dX10_isWord_48 : decode cX10_isWord 48 = .ok (.ireturn, 1) := by decide +kernel
theorem dX10_isWord_49 : decode cX10_isWord 49 = .ok (.iinc 2 1, 3) := by decide +kernel
theorem dX10_isWord_52 : decode cX10_isWord 52 = .ok (.goto (-32), 3) := by decide +kernel
theorem dX10_isWord_55 : decode cX10_isWord 55 = .ok (.iconst 1, 1) := by decide +kernel
theorem dX10_isWord_56 : decode cX10_isWord 56 = .ok (.ireturn, 1) := by decide +kernel
theorem dX10_isLetter_0 : decode cX10_isLetter 0 = .ok (.iload_n 0, 1) := by decide +kernel
theorem dX10_isLetter_1 : decode cX10_isLetter 1 = .ok (.bipush 97, 2) := by decide +kernel
theorem dX10_isLetter_3 : decode cX10_isLetter 3 = .ok (.if_icmp .lt 13, 3) := by decide +kernel
theorem dX10_isLetter_6 : decode cX10_isLetter 6 = .ok (.iload_n 0, 1) := by decide +kernel
theorem dX10_isLetter_7 : decode cX10_isLetter 7 = .ok (.bipush 122, 2) := by decide +kernel
theorem dX10_isLetter_9 : decode cX10_isLetter 9 = .ok (.if_icmp .gt 7, 3) := by decide +kernel
theorem dX10_isLetter_12 : decode cX10_isLetter 12 = .ok (.iconst 1, 1) := by decide +kernel
theorem dX10_isLetter_13 : decode cX10_isLetter 13 = .ok (.goto 4, 3) := by decide +kernel
theorem dX10_isLetter_16 : decode cX10_isLetter 16 = .ok (.iconst 0, 1) := by decide +kernel
theorem dX10_isLetter_17 : decode cX10_isLetter 17 = .ok (.ireturn, 1) := by decide +kernel
theorem dX10_isFigure_0 : decode cX10_isFigure 0 = .ok (.iload_n 0, 1) := by decide +kernel
theorem dX10_isFigure_1 : decode cX10_isFigure 1 = .ok (.bipush 48, 2) := by decide +kernel
theorem dX10_isFigure_3 : decode cX10_isFigure 3 = .ok (.if_icmp .lt 13, 3) := by decide +kernel
theorem dX10_isFigure_6 : decode cX10_isFigure 6 = .ok (.iload_n 0, 1) := by decide +kernel
theorem dX10_isFigure_7 : decode cX10_isFigure 7 = .ok (.bipush 57, 2) := by decide +kernel
theorem dX10_isFigure_9 : decode cX10_isFigure 9 = .ok (.if_icmp .gt 7, 3) := by decide +kernel
theorem dX10_isFigure_12 : decode cX10_isFigure 12 = .ok (.iconst 1, 1) := by decide +kernel
theorem dX10_isFigure_13 : decode cX10_isFigure 13 = .ok (.goto 4, 3) := by decide +kernel
theorem dX10_isFigure_16 : decode cX10_isFigure 16 = .ok (.iconst 0, 1) := by decide +kernel
theorem dX10_isFigure_17 : decode cX10_isFigure 17 = .ok (.ireturn, 1) := by decide +kernel
theorem dX11_init_0 : decode cX11_init 0 = .ok (.aload_n 0, 1) := by decide +kernel
theorem dX11_init_1 : decode cX11_init 1 = .ok (.invokespecial 3, 3) := by decide +kernel
theorem dX11_init_4 : decode cX11_init 4 = .ok (.aload_n 0, 1) := by decide +kernel
theorem dX11_init_5 : decode cX11_init 5 = .ok (.new 9, 3) := by decide +kernel
theorem dX11_init_8 : decode cX11_init 8 = .ok (.dup, 1) := by decide +kernel
theorem dX11_init_9 : decode cX11_init 9 = .ok (.invokespecial 11, 3) := by decide +kernel
theorem dX11_init_12 : decode cX11_init 12 = .ok (.putfield 12, 3) := by decide +kernel
theorem dX11_init_15 : decode cX11_init 15 = .ok (.aload_n 0, 1) := by decide +kernel
theorem dX11_init_16 : decode cX11_init 16 = .ok (.new 9, 3) := by decide +kernel
theorem dX11_init_19 : decode cX11_init 19 = .ok (.dup, 1) := by decide +kernel
theorem dX11_init_20 : decode cX11_init 20 = .ok (.invokespecial 11, 3) := by decide +kernel
theorem dX11_init_23 : decode cX11_init 23 = .ok (.putfield 16, 3) := by decide +kernel
theorem dX11_init_26 : decode cX11_init 26 = .ok (.aload_n 0, 1) := by decide +kernel
theorem dX11_init_27 : decode cX11_init 27 = .ok (.iconst 2, 1) := by decide +kernel
theorem dX11_init_28 : decode cX11_init 28 = .ok (.anewarray 9, 3) := by decide +kernel
theorem dX11_init_31 : decode cX11_init 31 = .ok (.dup, 1) := by decide +kernel
theorem dX11_init_32 : decode cX11_init 32 = .ok (.iconst 0, 1) := by decide +kernel
theorem dX11_init_33 : decode cX11_init 33 = .ok (.new 9, 3) := by decide +kernel
theorem dX11_init_36 : decode cX11_init 36 = .ok (.dup, 1) := by decide +kernel
theorem dX11_init_37 : decode cX11_init 37 = .ok (.invokespecial 11, 3) := by decide +kernel
theorem dX11_init_40 : decode cX11_init 40 = .ok (.aastore, 1) := by decide +kernel
theorem dX11_init_41 : decode cX11_init 41 = .ok (.dup, 1) := by decide +kernel
theorem dX11_init_42 : decode cX11_init 42 = .ok (.iconst 1, 1) := by decide +kernel
theorem dX11_init_43 : decode cX11_init 43 = .ok (.new 9, 3) := by decide +kernel
theorem dX11_init_46 : decode cX11_init 46 = .ok (.dup, 1) := by decide +kernel
theorem dX11_init_47 : decode cX11_init 47 = .ok (.invokespecial 11, 3) := by decide +kernel
theorem dX11_init_50 : decode cX11_init 50 = .ok (.aastore, 1) := by decide +kernel
theorem dX11_init_51 : decode cX11_init 51 = .ok (.putfield 19, 3) := by decide +kernel
theorem dX11_init_54 : decode cX11_init 54 = .ok (.aload_n 0, 1) := by decide +kernel
theorem dX11_init_55 : decode cX11_init 55 = .ok (.iconst 2, 1) := by decide +kernel
theorem dX11_init_56 : decode cX11_init 56 = .ok (.newarray .boolean, 2) := by decide +kernel
theorem dX11_init_58 : decode cX11_init 58 = .ok (.putfield 23, 3) := by decide +kernel
theorem dX11_init_61 : decode cX11_init 61 = .ok (.aload_n 0, 1) := by decide +kernel
theorem dX11_init_62 : decode cX11_init 62 = .ok (.new 27, 3) := by decide +kernel
theorem dX11_init_65 : decode cX11_init 65 = .ok (.dup, 1) := by decide +kernel
theorem dX11_init_66 : decode cX11_init 66 = .ok (.invokespecial 29, 3) := by decide +kernel
theorem dX11_init_69 : decode cX11_init 69 = .ok (.putfield 30, 3) := by decide +kernel
theorem dX11_init_72 : decode cX11_init 72 = .ok (.aload_n 0, 1) := by decide +kernel
theorem dX11_init_73 : decode cX11_init 73 = .ok (.new 34, 3) := by decide +kernel
theorem dX11_init_76 : decode cX11_init 76 = .ok (.dup, 1) := by decide +kernel
theorem dX11_init_77 : decode cX11_init 77 = .ok (.invokespecial 36, 3) := by decide +kernel
theorem dX11_init_80 : decode cX11_init 80 = .ok (.putfield 37, 3) := by decide +kernel
theorem dX11_init_83 : decode cX11_init 83 = .ok (.aload_n 0, 1) := by decide +kernel
theorem dX11_init_84 : decode cX11_init 84 = .ok (.new 41, 3) := by decide +kernel
theorem dX11_init_87 : decode cX11_init 87 = .ok (.dup, 1) := by decide +kernel
theorem dX11_init_88 : decode cX11_init 88 = .ok (.invokespecial 43, 3) := by decide +kernel
theorem dX11_init_91 : decode cX11_init 91 = .ok (.putfield 44, 3) := by decide +kernel
theorem dX11_init_94 : decode cX11_init 94 = .ok (.return_, 1) := by decide +kernel
theorem dX11_bridge_0 : decode cX11_bridge 0 = .ok (.aload_n 0, 1) := by decide +kernel
theorem dX11_bridge_1 : decode cX11_bridge 1 = .ok (.aload_n 0, 1) := by decide +kernel
theorem dX11_bridge_2 : decode cX11_bridge 2 = .ok (.getfield 12, 3) := by decide +kernel
theorem dX11_bridge_5 : decode cX11_bridge 5 = .ok (.iload_n 1, 1) := by decide +kernel
theorem dX11_bridge_6 : decode cX11_bridge 6 = .ok (.iload_n 2, 1) := by decide +kernel
theorem dX11_bridge_7 : decode cX11_bridge 7 = .ok (.iload_n 3, 1) := by decide +kernel
theorem dX11_bridge_8 : decode cX11_bridge 8 = .ok (.iload 4, 2) := by decide +kernel
theorem dX11_bridge_10 : decode cX11_bridge 10 = .ok (.invokevirtual 48, 3) := by decide +kernel
theorem dX11_bridge_13 : decode cX11_bridge 13 = .ok (.invokevirtual 52, 3) := by decide +kernel
theorem dX11_bridge_16 : decode cX11_bridge 16 = .ok (.ireturn, 1) := by decide +kernel
theorem dX11_chain_0 : decode cX11_chain 0 = .ok (.aload_n 0, 1) := by decide +kernel
theorem dX11_chain_1 : decode cX11_chain 1 = .ok (.aload_n 0, 1) := by decide +kernel
theorem dX11_chain_2 : decode cX11_chain 2 = .ok (.getfield 12, 3) := by decide +kernel
theorem dX11_chain_5 : decode cX11_chain 5 = .ok (.iload_n 1, 1) := by decide +kernel
theorem dX11_chain_6 : decode cX11_chain 6 = .ok (.iload_n 2, 1) := by decide +kernel
theorem dX11_chain_7 : decode cX11_chain 7 = .ok (.iload_n 3, 1) := by decide +kernel
theorem dX11_chain_8 : decode cX11_chain 8 = .ok (.invokevirtual 56, 3) := by decide +kernel
theorem dX11_chain_11 : decode cX11_chain 11 = .ok (.invokevirtual 52, 3) := by decide +kernel
theorem dX11_chain_14 : decode cX11_chain 14 = .ok (.ireturn, 1) := by decide +kernel
theorem dX11_load_0 : decode cX11_load 0 = .ok (.aload_n 0, 1) := by decide +kernel
theorem dX11_load_1 : decode cX11_load 1 = .ok (.aload_n 0, 1) := by decide +kernel
theorem dX11_load_2 : decode cX11_load 2 = .ok (.getfield 12, 3) := by decide +kernel
theorem dX11_load_5 : decode cX11_load 5 = .ok (.iload_n 1, 1) := by decide +kernel
theorem dX11_load_6 : decode cX11_load 6 = .ok (.iload_n 2, 1) := by decide +kernel
theorem dX11_load_7 : decode cX11_load 7 = .ok (.invokevirtual 60, 3) := by decide +kernel
theorem dX11_load_10 : decode cX11_load 10 = .ok (.invokevirtual 52, 3) := by decide +kernel
theorem dX11_load_13 : decode cX11_load 13 = .ok (.ireturn, 1) := by decide +kernel
theorem dX11_one_0 : decode cX11_one 0 = .ok (.aload_n 0, 1) := by decide +kernel
theorem dX11_one_1 : decode cX11_one 1 = .ok (.aload_n 0, 1) := by decide +kernel
theorem dX11_one_2 : decode cX11_one 2 = .ok (.getfield 12, 3) := by decide +kernel
theorem dX11_one_5 : decode cX11_one 5 = .ok (.iload_n 1, 1) := by decide +kernel
theorem dX11_one_6 : decode cX11_one 6 = .ok (.iload_n 2, 1) := by decide +kernel
theorem dX11_one_7 : decode cX11_one 7 = .ok (.invokevirtual 64, 3) := by decide +kernel
theorem dX11_one_10 : decode cX11_one 10 = .ok (.invokevirtual 52, 3) := by decide +kernel
theorem dX11_one_13 : decode cX11_one 13 = .ok (.ireturn, 1) := by decide +kernel
theorem dX11_weight_0 : decode cX11_weight 0 = .ok (.aload_n 0, 1) := by decide +kernel
theorem dX11_weight_1 : decode cX11_weight 1 = .ok (.getfield 12, 3) := by decide +kernel
theorem dX11_weight_4 : decode cX11_weight 4 = .ok (.iload_n 1, 1) := by decide +kernel
theorem dX11_weight_5 : decode cX11_weight 5 = .ok (.invokevirtual 67, 3) := by decide +kernel
theorem dX11_weight_8 : decode cX11_weight 8 = .ok (.ifCond .eq 14, 3) := by decide +kernel
theorem dX11_weight_11 : decode cX11_weight 11 = .ok (.aload_n 0, 1) := by decide +kernel
theorem dX11_weight_12 : decode cX11_weight 12 = .ok (.getfield 12, 3) := by decide +kernel
theorem dX11_weight_15 : decode cX11_weight 15 = .ok (.iload_n 1, 1) := by decide +kernel
theorem dX11_weight_16 : decode cX11_weight 16 = .ok (.invokevirtual 71, 3) := by decide +kernel
theorem dX11_weight_19 : decode cX11_weight 19 = .ok (.goto 9, 3) := by decide +kernel
theorem dX11_weight_22 : decode cX11_weight 22 = .ok (.aload_n 0, 1) := by decide +kernel
theorem dX11_weight_23 : decode cX11_weight 23 = .ok (.bipush (-2), 2) := by decide +kernel
theorem dX11_weight_25 : decode cX11_weight 25 = .ok (.invokevirtual 52, 3) := by decide +kernel
theorem dX11_weight_28 : decode cX11_weight 28 = .ok (.ireturn, 1) := by decide +kernel
theorem dX11_where_0 : decode cX11_where 0 = .ok (.aload_n 0, 1) := by decide +kernel
theorem dX11_where_1 : decode cX11_where 1 = .ok (.getfield 12, 3) := by decide +kernel
theorem dX11_where_4 : decode cX11_where 4 = .ok (.iload_n 1, 1) := by decide +kernel
theorem dX11_where_5 : decode cX11_where 5 = .ok (.invokevirtual 74, 3) := by decide +kernel
theorem dX11_where_8 : decode cX11_where 8 = .ok (.ifCond .eq 15, 3) := by decide +kernel
theorem dX11_where_11 : decode cX11_where 11 = .ok (.aload_n 0, 1) := by decide +kernel
theorem dX11_where_12 : decode cX11_where 12 = .ok (.getfield 12, 3) := by decide +kernel
theorem dX11_where_15 : decode cX11_where 15 = .ok (.getfield 77, 3) := by decide +kernel
theorem dX11_where_18 : decode cX11_where 18 = .ok (.iload_n 1, 1) := by decide +kernel
theorem dX11_where_19 : decode cX11_where 19 = .ok (.iaload, 1) := by decide +kernel
theorem dX11_where_20 : decode cX11_where 20 = .ok (.goto 9, 3) := by decide +kernel
theorem dX11_where_23 : decode cX11_where 23 = .ok (.aload_n 0, 1) := by decide +kernel
theorem dX11_where_24 : decode cX11_where 24 = .ok (.bipush (-2), 2) := by decide +kernel
theorem dX11_where_26 : decode cX11_where 26 = .ok (.invokevirtual 52, 3) := by decide +kernel
theorem dX11_where_29 : decode cX11_where 29 = .ok (.ireturn, 1) := by decide +kernel
theorem dX11_lying_0 : decode cX11_lying 0 = .ok (.aload_n 0, 1) := by decide +kernel
theorem dX11_lying_1 : decode cX11_lying 1 = .ok (.getfield 12, 3) := by decide +kernel
theorem dX11_lying_4 : decode cX11_lying 4 = .ok (.getfield 81, 3) := by decide +kernel
theorem dX11_lying_7 : decode cX11_lying 7 = .ok (.ireturn, 1) := by decide +kernel
theorem dX11_type_0 : decode cX11_type 0 = .ok (.aload_n 0, 1) := by decide +kernel
theorem dX11_type_1 : decode cX11_type 1 = .ok (.aload_n 0, 1) := by decide +kernel
theorem dX11_type_2 : decode cX11_type 2 = .ok (.getfield 30, 3) := by decide +kernel
theorem dX11_type_5 : decode cX11_type 5 = .ok (.lload_n 1, 1) := by decide +kernel
theorem dX11_type_6 : decode cX11_type 6 = .ok (.iload_n 3, 1) := by decide +kernel
theorem dX11_type_7 : decode cX11_type 7 = .ok (.invokevirtual 85, 3) := by decide +kernel
theorem dX11_type_10 : decode cX11_type 10 = .ok (.invokevirtual 52, 3) := by decide +kernel
theorem dX11_type_13 : decode cX11_type 13 = .ok (.ireturn, 1) := by decide +kernel
theorem dX11_clear_0 : decode cX11_clear 0 = .ok (.aload_n 0, 1) := by decide +kernel
theorem dX11_clear_1 : decode cX11_clear 1 = .ok (.getfield 30, 3) := by decide +kernel
theorem dX11_clear_4 : decode cX11_clear 4 = .ok (.invokevirtual 89, 3) := by decide +kernel
theorem dX11_clear_7 : decode cX11_clear 7 = .ok (.ireturn, 1) := by decide +kernel
theorem dX11_read_0 : decode cX11_read 0 = .ok (.aload_n 0, 1) := by decide +kernel
theorem dX11_read_1 : decode cX11_read 1 = .ok (.getfield 37, 3) := by decide +kernel
theorem dX11_read_4 : decode cX11_read 4 = .ok (.aload_n 0, 1) := by decide +kernel
theorem dX11_read_5 : decode cX11_read 5 = .ok (.getfield 16, 3) := by decide +kernel
theorem dX11_read_8 : decode cX11_read 8 = .ok (.aload_n 0, 1) := by decide +kernel
theorem dX11_read_9 : decode cX11_read 9 = .ok (.getfield 30, 3) := by decide +kernel
theorem dX11_read_12 : decode cX11_read 12 = .ok (.invokevirtual 93, 3) := by decide +kernel
theorem dX11_read_15 : decode cX11_read 15 = .ok (.istore_n 1, 1) := by decide +kernel
theorem dX11_read_16 : decode cX11_read 16 = .ok (.iload_n 1, 1) := by decide +kernel
theorem dX11_read_17 : decode cX11_read 17 = .ok (.ifCond .lt 14, 3) := by decide +kernel
theorem dX11_read_20 : decode cX11_read 20 = .ok (.aload_n 0, 1) := by decide +kernel
theorem dX11_read_21 : decode cX11_read 21 = .ok (.getfield 12, 3) := by decide +kernel
theorem dX11_read_24 : decode cX11_read 24 = .ok (.aload_n 0, 1) := by decide +kernel
theorem dX11_read_25 : decode cX11_read 25 = .ok (.getfield 16, 3) := by decide +kernel
theorem dX11_read_28 : decode cX11_read 28 = .ok (.invokevirtual 97, 3) := by decide +kernel
theorem dX11_read_31 : decode cX11_read 31 = .ok (.iload_n 1, 1) := by decide +kernel
theorem dX11_read_32 : decode cX11_read 32 = .ok (.ireturn, 1) := by decide +kernel
theorem dX11_step_0 : decode cX11_step 0 = .ok (.aload_n 0, 1) := by decide +kernel
theorem dX11_step_1 : decode cX11_step 1 = .ok (.getfield 12, 3) := by decide +kernel
theorem dX11_step_4 : decode cX11_step 4 = .ok (.iload_n 1, 1) := by decide +kernel
theorem dX11_step_5 : decode cX11_step 5 = .ok (.invokevirtual 74, 3) := by decide +kernel
theorem dX11_step_8 : decode cX11_step 8 = .ok (.ifCond .eq 14, 3) := by decide +kernel
theorem dX11_step_11 : decode cX11_step 11 = .ok (.aload_n 0, 1) := by decide +kernel
theorem dX11_step_12 : decode cX11_step 12 = .ok (.getfield 12, 3) := by decide +kernel
theorem dX11_step_15 : decode cX11_step 15 = .ok (.iload_n 2, 1) := by decide +kernel
theorem dX11_step_16 : decode cX11_step 16 = .ok (.invokevirtual 101, 3) := by decide +kernel
theorem dX11_step_19 : decode cX11_step 19 = .ok (.ifCond .ne 10, 3) := by decide +kernel
theorem dX11_step_22 : decode cX11_step 22 = .ok (.aload_n 0, 1) := by decide +kernel
theorem dX11_step_23 : decode cX11_step 23 = .ok (.bipush (-2), 2) := by decide +kernel
theorem dX11_step_25 : decode cX11_step 25 = .ok (.invokevirtual 52, 3) := by decide +kernel
theorem dX11_step_28 : decode cX11_step 28 = .ok (.ireturn, 1) := by decide +kernel
theorem dX11_step_29 : decode cX11_step 29 = .ok (.aload_n 0, 1) := by decide +kernel
theorem dX11_step_30 : decode cX11_step 30 = .ok (.getfield 12, 3) := by decide +kernel
theorem dX11_step_33 : decode cX11_step 33 = .ok (.iload_n 1, 1) := by decide +kernel
theorem dX11_step_34 : decode cX11_step 34 = .ok (.iload_n 2, 1) := by decide +kernel
theorem dX11_step_35 : decode cX11_step 35 = .ok (.invokevirtual 104, 3) := by decide +kernel
theorem dX11_step_38 : decode cX11_step 38 = .ok (.ifCond .ne 10, 3) := by decide +kernel
theorem dX11_step_41 : decode cX11_step 41 = .ok (.aload_n 0, 1) := by decide +kernel
theorem dX11_step_42 : decode cX11_step 42 = .ok (.bipush (-3), 2) := by decide +kernel
theorem dX11_step_44 : decode cX11_step 44 = .ok (.invokevirtual 52, 3) := by decide +kernel
theorem dX11_step_47 : decode cX11_step 47 = .ok (.ireturn, 1) := by decide +kernel
theorem dX11_step_48 : decode cX11_step 48 = .ok (.aload_n 0, 1) := by decide +kernel
theorem dX11_step_49 : decode cX11_step 49 = .ok (.getfield 12, 3) := by decide +kernel
theorem dX11_step_52 : decode cX11_step 52 = .ok (.getfield 108, 3) := by decide +kernel
theorem dX11_step_55 : decode cX11_step 55 = .ok (.aload_n 0, 1) := by decide +kernel
theorem dX11_step_56 : decode cX11_step 56 = .ok (.getfield 12, 3) := by decide +kernel
theorem dX11_step_59 : decode cX11_step 59 = .ok (.invokevirtual 112, 3) := by decide +kernel
theorem dX11_step_62 : decode cX11_step 62 = .ok (.invokevirtual 115, 3) := by decide +kernel
theorem dX11_step_65 : decode cX11_step 65 = .ok (.aload_n 0, 1) := by decide +kernel
theorem dX11_step_66 : decode cX11_step 66 = .ok (.getfield 12, 3) := by decide +kernel
theorem dX11_step_69 : decode cX11_step 69 = .ok (.iload_n 1, 1) := by decide +kernel
theorem dX11_step_70 : decode cX11_step 70 = .ok (.iload_n 2, 1) := by decide +kernel
theorem dX11_step_71 : decode cX11_step 71 = .ok (.invokevirtual 121, 3) := by decide +kernel
theorem dX11_step_74 : decode cX11_step 74 = .ok (.aload_n 0, 1) := by decide +kernel
theorem dX11_step_75 : decode cX11_step 75 = .ok (.getfield 12, 3) := by decide +kernel
theorem dX11_step_78 : decode cX11_step 78 = .ok (.getfield 81, 3) := by decide +kernel
theorem dX11_step_81 : decode cX11_step 81 = .ok (.ireturn, 1) := by decide +kernel
theorem dX11_undo_0 : decode cX11_undo 0 = .ok (.aload_n 0, 1) := by decide +kernel
theorem dX11_undo_1 : decode cX11_undo 1 = .ok (.getfield 12, 3) := by decide +kernel
theorem dX11_undo_4 : decode cX11_undo 4 = .ok (.getfield 108, 3) := by decide +kernel
theorem dX11_undo_7 : decode cX11_undo 7 = .ok (.getfield 125, 3) := by decide +kernel
theorem dX11_undo_10 : decode cX11_undo 10 = .ok (.ifCond .ne 10, 3) := by decide +kernel
theorem dX11_undo_13 : decode cX11_undo 13 = .ok (.aload_n 0, 1) := by decide +kernel
theorem dX11_undo_14 : decode cX11_undo 14 = .ok (.bipush (-3), 2) := by decide +kernel
theorem dX11_undo_16 : decode cX11_undo 16 = .ok (.invokevirtual 52, 3) := by decide +kernel
theorem dX11_undo_19 : decode cX11_undo 19 = .ok (.ireturn, 1) := by decide +kernel
theorem dX11_undo_20 : decode cX11_undo 20 = .ok (.aload_n 0, 1) := by decide +kernel
theorem dX11_undo_21 : decode cX11_undo 21 = .ok (.getfield 12, 3) := by decide +kernel
theorem dX11_undo_24 : decode cX11_undo 24 = .ok (.aload_n 0, 1) := by decide +kernel
theorem dX11_undo_25 : decode cX11_undo 25 = .ok (.getfield 12, 3) := by decide +kernel
theorem dX11_undo_28 : decode cX11_undo 28 = .ok (.getfield 108, 3) := by decide +kernel
theorem dX11_undo_31 : decode cX11_undo 31 = .ok (.invokevirtual 128, 3) := by decide +kernel
theorem dX11_undo_34 : decode cX11_undo 34 = .ok (.invokevirtual 131, 3) := by decide +kernel
theorem dX11_undo_37 : decode cX11_undo 37 = .ok (.aload_n 0, 1) := by decide +kernel
theorem dX11_undo_38 : decode cX11_undo 38 = .ok (.getfield 12, 3) := by decide +kernel
theorem dX11_undo_41 : decode cX11_undo 41 = .ok (.getfield 81, 3) := by decide +kernel
theorem dX11_undo_44 : decode cX11_undo 44 = .ok (.ireturn, 1) := by decide +kernel
theorem dX11_way_0 : decode cX11_way 0 = .ok (.aload_n 0, 1) := by decide +kernel
theorem dX11_way_1 : decode cX11_way 1 = .ok (.getfield 12, 3) := by decide +kernel
theorem dX11_way_4 : decode cX11_way 4 = .ok (.iload_n 1, 1) := by decide +kernel
theorem dX11_way_5 : decode cX11_way 5 = .ok (.invokevirtual 134, 3) := by decide +kernel
theorem dX11_way_8 : decode cX11_way 8 = .ok (.ifCond .eq 15, 3) := by decide +kernel
theorem dX11_way_11 : decode cX11_way 11 = .ok (.iload_n 2, 1) := by decide +kernel
theorem dX11_way_12 : decode cX11_way 12 = .ok (.invokestatic 137, 3) := by decide +kernel
theorem dX11_way_15 : decode cX11_way 15 = .ok (.ifCond .eq 8, 3) := by decide +kernel
theorem dX11_way_18 : decode cX11_way 18 = .ok (.iload_n 3, 1) := by decide +kernel
theorem dX11_way_19 : decode cX11_way 19 = .ok (.iconst (-1), 1) := by decide +kernel
theorem dX11_way_20 : decode cX11_way 20 = .ok (.if_icmp .ge 13, 3) := by decide +kernel
theorem dX11_way_23 : decode cX11_way 23 = .ok (.aload_n 0, 1) := by decide +kernel
theorem dX11_way_24 : decode cX11_way 24 = .ok (.bipush (-2), 2) := by decide +kernel
theorem dX11_way_26 : decode cX11_way 26 = .ok (.invokevirtual 52, 3) := by decide +kernel
theorem dX11_way_29 : decode cX11_way 29 = .ok (.pop, 1) := by decide +kernel
theorem dX11_way_30 : decode cX11_way 30 = .ok (.bipush (-10), 2) := by decide +kernel
theorem dX11_way_32 : decode cX11_way 32 = .ok (.ireturn, 1) := by decide +kernel
theorem dX11_way_33 : decode cX11_way 33 = .ok (.aload_n 0, 1) := by decide +kernel
theorem dX11_way_34 : decode cX11_way 34 = .ok (.iload_n 1, 1) := by decide +kernel
theorem dX11_way_35 : decode cX11_way 35 = .ok (.iload_n 2, 1) := by decide +kernel
theorem dX11_way_36 : decode cX11_way 36 = .ok (.invokevirtual 140, 3) := by decide +kernel
theorem dX11_way_39 : decode cX11_way 39 = .ok (.istore 4, 2) := by decide +kernel
theorem dX11_way_41 : decode cX11_way 41 = .ok (.iload 4, 2) := by decide +kernel
theorem dX11_way_43 : decode cX11_way 43 = .ok (.iconst (-1), 1) := by decide +kernel
theorem dX11_way_44 : decode cX11_way 44 = .ok (.if_icmp .eq 8, 3) := by decide +kernel
theorem dX11_way_47 : decode cX11_way 47 = .ok (.iload_n 3, 1) := by decide +kernel
theorem dX11_way_48 : decode cX11_way 48 = .ok (.iconst (-1), 1) := by decide +kernel
theorem dX11_way_49 : decode cX11_way 49 = .ok (.if_icmp .ne 6, 3) := by decide +kernel
theorem dX11_way_52 : decode cX11_way 52 = .ok (.iload 4, 2) := by decide +kernel
theorem dX11_way_54 : decode cX11_way 54 = .ok (.ireturn, 1) := by decide +kernel
theorem dX11_way_55 : decode cX11_way 55 = .ok (.iload_n 3, 1) := by decide +kernel
theorem dX11_way_56 : decode cX11_way 56 = .ok (.iload 4, 2) := by decide +kernel
theorem dX11_way_58 : decode cX11_way 58 = .ok (.if_icmp .ge 16, 3) := by decide +kernel
theorem dX11_way_61 : decode cX11_way 61 = .ok (.aload_n 0, 1) := by decide +kernel
theorem dX11_way_62 : decode cX11_way 62 = .ok (.getfield 44, 3) := by decide +kernel
theorem dX11_way_65 : decode cX11_way 65 = .ok (.iload_n 3, 1) := by decide +kernel
theorem dX11_way_66 : decode cX11_way 66 = .ok (.iload 4, 2) := by decide +kernel
theorem dX11_way_68 : decode cX11_way 68 = .ok (.invokevirtual 143, 3) := by decide +kernel
theorem dX11_way_71 : decode cX11_way 71 = .ok (.goto 5, 3) := by decide +kernel
theorem dX11_way_74 : decode cX11_way 74 = .ok (.bipush (-5), 2) := by decide +kernel
theorem dX11_way_76 : decode cX11_way 76 = .ok (.ireturn, 1) := by decide +kernel
theorem dX11_reach_0 : decode cX11_reach 0 = .ok (.iload_n 1, 1) := by decide +kernel
theorem dX11_reach_1 : decode cX11_reach 1 = .ok (.ifCond .lt 8, 3) := by decide +kernel
theorem dX11_reach_4 : decode cX11_reach 4 = .ok (.iload_n 1, 1) := by decide +kernel
theorem dX11_reach_5 : decode cX11_reach 5 = .ok (.iconst 3, 1) := by decide +kernel
theorem dX11_reach_6 : decode cX11_reach 6 = .ok (.if_icmp .le 10, 3) := by decide +kernel
theorem dX11_reach_9 : decode cX11_reach 9 = .ok (.aload_n 0, 1) := by decide +kernel
theorem dX11_reach_10 : decode cX11_reach 10 = .ok (.bipush (-2), 2) := by decide +kernel
theorem dX11_reach_12 : decode cX11_reach 12 = .ok (.invokevirtual 52, 3) := by decide +kernel
theorem dX11_reach_15 : decode cX11_reach 15 = .ok (.ireturn, 1) := by decide +kernel
theorem dX11_reach_16 : decode cX11_reach 16 = .ok (.aload_n 0, 1) := by decide +kernel
theorem dX11_reach_17 : decode cX11_reach 17 = .ok (.invokevirtual 146, 3) := by decide +kernel
theorem dX11_reach_20 : decode cX11_reach 20 = .ok (.istore_n 2, 1) := by decide +kernel
theorem dX11_reach_21 : decode cX11_reach 21 = .ok (.iload_n 1, 1) := by decide +kernel
theorem dX11_reach_22 : decode cX11_reach 22 = .ok (.tableswitch 51 0 2 #[26, 34, 39], 26) := by decide +kernel
theorem dX11_reach_48 : decode cX11_reach 48 = .ok (.aload_n 0, 1) := by decide +kernel
theorem dX11_reach_49 : decode cX11_reach 49 = .ok (.getfield 44, 3) := by decide +kernel
theorem dX11_reach_52 : decode cX11_reach 52 = .ok (.getfield 149, 3) := by decide +kernel
theorem dX11_reach_55 : decode cX11_reach 55 = .ok (.ireturn, 1) := by decide +kernel
theorem dX11_reach_56 : decode cX11_reach 56 = .ok (.iload_n 2, 1) := by decide +kernel
theorem dX11_reach_57 : decode cX11_reach 57 = .ok (.invokestatic 152, 3) := by decide +kernel
theorem dX11_reach_60 : decode cX11_reach 60 = .ok (.ireturn, 1) := by decide +kernel
theorem dX11_reach_61 : decode cX11_reach 61 = .ok (.iload_n 2, 1) := by decide +kernel
theorem dX11_reach_62 : decode cX11_reach 62 = .ok (.aload_n 0, 1) := by decide +kernel
theorem dX11_reach_63 : decode cX11_reach 63 = .ok (.getfield 12, 3) := by decide +kernel
theorem dX11_reach_66 : decode cX11_reach 66 = .ok (.invokevirtual 157, 3) := by decide +kernel
theorem dX11_reach_69 : decode cX11_reach 69 = .ok (.invokestatic 160, 3) := by decide +kernel
theorem dX11_reach_72 : decode cX11_reach 72 = .ok (.ireturn, 1) := by decide +kernel
theorem dX11_reach_73 : decode cX11_reach 73 = .ok (.aload_n 0, 1) := by decide +kernel
theorem dX11_reach_74 : decode cX11_reach 74 = .ok (.getfield 12, 3) := by decide +kernel
theorem dX11_reach_77 : decode cX11_reach 77 = .ok (.invokevirtual 157, 3) := by decide +kernel
theorem dX11_reach_80 : decode cX11_reach 80 = .ok (.iload_n 2, 1) := by decide +kernel
theorem dX11_reach_81 : decode cX11_reach 81 = .ok (.invokestatic 163, 3) := by decide +kernel
theorem dX11_reach_84 : decode cX11_reach 84 = .ok (.iconst (-1), 1) := by decide +kernel
theorem dX11_reach_85 : decode cX11_reach 85 = .ok (.ixor, 1) := by decide +kernel
theorem dX11_reach_86 : decode cX11_reach 86 = .ok (.iand, 1) := by decide +kernel
theorem dX11_reach_87 : decode cX11_reach 87 = .ok (.ireturn, 1) := by decide +kernel
theorem dX11_can_0 : decode cX11_can 0 = .ok (.aload_n 0, 1) := by decide +kernel
theorem dX11_can_1 : decode cX11_can 1 = .ok (.getfield 12, 3) := by decide +kernel
theorem dX11_can_4 : decode cX11_can 4 = .ok (.iload_n 1, 1) := by decide +kernel
theorem dX11_can_5 : decode cX11_can 5 = .ok (.invokevirtual 166, 3) := by decide +kernel
theorem dX11_can_8 : decode cX11_can 8 = .ok (.ifCond .ne 10, 3) := by decide +kernel
theorem dX11_can_11 : decode cX11_can 11 = .ok (.aload_n 0, 1) := by decide +kernel
theorem dX11_can_12 : decode cX11_can 12 = .ok (.bipush (-2), 2) := by decide +kernel
theorem dX11_can_14 : decode cX11_can 14 = .ok (.invokevirtual 52, 3) := by decide +kernel
theorem dX11_can_17 : decode cX11_can 17 = .ok (.ireturn, 1) := by decide +kernel
theorem dX11_can_18 : decode cX11_can 18 = .ok (.aload_n 0, 1) := by decide +kernel
theorem dX11_can_19 : decode cX11_can 19 = .ok (.invokevirtual 146, 3) := by decide +kernel
theorem dX11_can_22 : decode cX11_can 22 = .ok (.iload_n 1, 1) := by decide +kernel
theorem dX11_can_23 : decode cX11_can 23 = .ok (.invokestatic 169, 3) := by decide +kernel
theorem dX11_can_26 : decode cX11_can 26 = .ok (.ifCond .eq 7, 3) := by decide +kernel
theorem dX11_can_29 : decode cX11_can 29 = .ok (.iconst 1, 1) := by decide +kernel
theorem dX11_can_30 : decode cX11_can 30 = .ok (.goto 4, 3) := by decide +kernel
theorem dX11_can_33 : decode cX11_can 33 = .ok (.iconst 0, 1) := by decide +kernel
theorem dX11_can_34 : decode cX11_can 34 = .ok (.ireturn, 1) := by decide +kernel
theorem dX11_closed_0 : decode cX11_closed 0 = .ok (.iload_n 1, 1) := by decide +kernel
theorem dX11_closed_1 : decode cX11_closed 1 = .ok (.invokestatic 137, 3) := by decide +kernel
theorem dX11_closed_4 : decode cX11_closed 4 = .ok (.ifCond .ne 10, 3) := by decide +kernel
theorem dX11_closed_7 : decode cX11_closed 7 = .ok (.aload_n 0, 1) := by decide +kernel
theorem dX11_closed_8 : decode cX11_closed 8 = .ok (.bipush (-2), 2) := by decide +kernel
theorem dX11_closed_10 : decode cX11_closed 10 = .ok (.invokevirtual 52, 3) := by decide +kernel
theorem dX11_closed_13 : decode cX11_closed 13 = .ok (.ireturn, 1) := by decide +kernel
theorem dX11_closed_14 : decode cX11_closed 14 = .ok (.aload_n 0, 1) := by decide +kernel
theorem dX11_closed_15 : decode cX11_closed 15 = .ok (.invokevirtual 146, 3) := by decide +kernel
theorem dX11_closed_18 : decode cX11_closed 18 = .ok (.istore_n 2, 1) := by decide +kernel
theorem dX11_closed_19 : decode cX11_closed 19 = .ok (.aload_n 0, 1) := by decide +kernel
theorem dX11_closed_20 : decode cX11_closed 20 = .ok (.getfield 12, 3) := by decide +kernel
theorem dX11_closed_23 : decode cX11_closed 23 = .ok (.iload_n 1, 1) := by decide +kernel
theorem dX11_closed_24 : decode cX11_closed 24 = .ok (.invokevirtual 172, 3) := by decide +kernel
theorem dX11_closed_27 : decode cX11_closed 27 = .ok (.istore_n 3, 1) := by decide +kernel
theorem dX11_closed_28 : decode cX11_closed 28 = .ok (.iconst 0, 1) := by decide +kernel
theorem dX11_closed_29 : decode cX11_closed 29 = .ok (.istore 4, 2) := by decide +kernel
theorem dX11_closed_31 : decode cX11_closed 31 = .ok (.iload 4, 2) := by decide +kernel
theorem dX11_closed_33 : decode cX11_closed 33 = .ok (.aload_n 0, 1) := by decide +kernel
theorem dX11_closed_34 : decode cX11_closed 34 = .ok (.getfield 12, 3) := by decide +kernel
theorem dX11_closed_37 : decode cX11_closed 37 = .ok (.invokevirtual 157, 3) := by decide +kernel
theorem dX11_closed_40 : decode cX11_closed 40 = .ok (.if_icmp .gt 27, 3) := by decide +kernel
theorem dX11_closed_43 : decode cX11_closed 43 = .ok (.iload_n 2, 1) := by decide +kernel
theorem dX11_closed_44 : decode cX11_closed 44 = .ok (.iload 4, 2) := by decide +kernel
theorem dX11_closed_46 : decode cX11_closed 46 = .ok (.invokestatic 169, 3) := by decide +kernel
theorem dX11_closed_49 : decode cX11_closed 49 = .ok (.ifCond .eq 12, 3) := by decide +kernel
theorem dX11_closed_52 : decode cX11_closed 52 = .ok (.iload 4, 2) := by decide +kernel
theorem dX11_closed_54 : decode cX11_closed 54 = .ok (.iload_n 3, 1) := by decide +kernel
theorem dX11_closed_55 : decode cX11_closed 55 = .ok (.iand, 1) := by decide +kernel
theorem dX11_closed_56 : decode cX11_closed 56 = .ok (.ifCond .ne 5, 3) := by decide +kernel
theorem dX11_closed_59 : decode cX11_closed 59 = .ok (.iconst 1, 1) := by decide +kernel
theorem dX11_closed_60 : decode cX11_closed 60 = .ok (.ireturn, 1) := by decide +kernel
theorem dX11_closed_61 : decode cX11_closed 61 = .ok (.iinc 4 1, 3) := by decide +kernel
theorem dX11_closed_64 : decode cX11_closed 64 = .ok (.goto (-33), 3) := by decide +kernel
theorem dX11_closed_67 : decode cX11_closed 67 = .ok (.iconst 0, 1) := by decide +kernel
theorem dX11_closed_68 : decode cX11_closed 68 = .ok (.ireturn, 1) := by decide +kernel
theorem dX11_child_0 : decode cX11_child 0 = .ok (.aload_n 0, 1) := by decide +kernel
theorem dX11_child_1 : decode cX11_child 1 = .ok (.getfield 12, 3) := by decide +kernel
theorem dX11_child_4 : decode cX11_child 4 = .ok (.iload_n 1, 1) := by decide +kernel
theorem dX11_child_5 : decode cX11_child 5 = .ok (.invokevirtual 74, 3) := by decide +kernel
theorem dX11_child_8 : decode cX11_child 8 = .ok (.ifCond .ne 10, 3) := by decide +kernel
theorem dX11_child_11 : decode cX11_child 11 = .ok (.aload_n 0, 1) := by decide +kernel
theorem dX11_child_12 : decode cX11_child 12 = .ok (.bipush (-2), 2) := by decide +kernel
theorem dX11_child_14 : decode cX11_child 14 = .ok (.invokevirtual 52, 3) := by decide +kernel
theorem dX11_child_17 : decode cX11_child 17 = .ok (.ireturn, 1) := by decide +kernel
theorem dX11_child_18 : decode cX11_child 18 = .ok (.aload_n 0, 1) := by decide +kernel
theorem dX11_child_19 : decode cX11_child 19 = .ok (.invokevirtual 146, 3) := by decide +kernel
theorem dX11_child_22 : decode cX11_child 22 = .ok (.istore_n 2, 1) := by decide +kernel
theorem dX11_child_23 : decode cX11_child 23 = .ok (.aload_n 0, 1) := by decide +kernel
theorem dX11_child_24 : decode cX11_child 24 = .ok (.getfield 16, 3) := by decide +kernel
theorem dX11_child_27 : decode cX11_child 27 = .ok (.aload_n 0, 1) := by decide +kernel
theorem dX11_child_28 : decode cX11_child 28 = .ok (.getfield 12, 3) := by decide +kernel
theorem dX11_child_31 : decode cX11_child 31 = .ok (.invokevirtual 97, 3) := by decide +kernel
theorem dX11_child_34 : decode cX11_child 34 = .ok (.aload_n 0, 1) := by decide +kernel
theorem dX11_child_35 : decode cX11_child 35 = .ok (.getfield 16, 3) := by decide +kernel
theorem dX11_child_38 : decode cX11_child 38 = .ok (.iload_n 1, 1) := by decide +kernel
theorem dX11_child_39 : decode cX11_child 39 = .ok (.invokevirtual 175, 3) := by decide +kernel
theorem dX11_child_42 : decode cX11_child 42 = .ok (.aload_n 0, 1) := by decide +kernel
theorem dX11_child_43 : decode cX11_child 43 = .ok (.getfield 44, 3) := by decide +kernel
theorem dX11_child_46 : decode cX11_child 46 = .ok (.aload_n 0, 1) := by decide +kernel
theorem dX11_child_47 : decode cX11_child 47 = .ok (.getfield 16, 3) := by decide +kernel
theorem dX11_child_50 : decode cX11_child 50 = .ok (.iconst 0, 1) := by decide +kernel
theorem dX11_child_51 : decode cX11_child 51 = .ok (.iconst (-1), 1) := by decide +kernel
theorem dX11_child_52 : decode cX11_child 52 = .ok (.iconst (-1), 1) := by decide +kernel
theorem dX11_child_53 : decode cX11_child 53 = .ok (.invokevirtual 178, 3) := by decide +kernel
theorem dX11_child_56 : decode cX11_child 56 = .ok (.pop, 1) := by decide +kernel
theorem dX11_child_57 : decode cX11_child 57 = .ok (.iload_n 2, 1) := by decide +kernel
theorem dX11_child_58 : decode cX11_child 58 = .ok (.aload_n 0, 1) := by decide +kernel
theorem dX11_child_59 : decode cX11_child 59 = .ok (.getfield 44, 3) := by decide +kernel
theorem dX11_child_62 : decode cX11_child 62 = .ok (.getfield 182, 3) := by decide +kernel
theorem dX11_child_65 : decode cX11_child 65 = .ok (.iconst (-1), 1) := by decide +kernel
theorem dX11_child_66 : decode cX11_child 66 = .ok (.ixor, 1) := by decide +kernel
theorem dX11_child_67 : decode cX11_child 67 = .ok (.iand, 1) := by decide +kernel
theorem dX11_child_68 : decode cX11_child 68 = .ok (.invokestatic 152, 3) := by decide +kernel
theorem dX11_child_71 : decode cX11_child 71 = .ok (.ireturn, 1) := by decide +kernel
theorem dX11_cut_0 : decode cX11_cut 0 = .ok (.aload_n 0, 1) := by decide +kernel
theorem dX11_cut_1 : decode cX11_cut 1 = .ok (.getfield 12, 3) := by decide +kernel
theorem dX11_cut_4 : decode cX11_cut 4 = .ok (.iload_n 1, 1) := by decide +kernel
theorem dX11_cut_5 : decode cX11_cut 5 = .ok (.invokevirtual 134, 3) := by decide +kernel
theorem dX11_cut_8 : decode cX11_cut 8 = .ok (.ifCond .eq 10, 3) := by decide +kernel
theorem dX11_cut_11 : decode cX11_cut 11 = .ok (.iload_n 2, 1) := by decide +kernel
theorem dX11_cut_12 : decode cX11_cut 12 = .ok (.invokestatic 137, 3) := by decide +kernel
theorem dX11_cut_15 : decode cX11_cut 15 = .ok (.ifCond .ne 10, 3) := by decide +kernel
theorem dX11_cut_18 : decode cX11_cut 18 = .ok (.aload_n 0, 1) := by decide +kernel
theorem dX11_cut_19 : decode cX11_cut 19 = .ok (.bipush (-2), 2) := by decide +kernel
theorem dX11_cut_21 : decode cX11_cut 21 = .ok (.invokevirtual 52, 3) := by decide +kernel
theorem dX11_cut_24 : decode cX11_cut 24 = .ok (.ireturn, 1) := by decide +kernel
theorem dX11_cut_25 : decode cX11_cut 25 = .ok (.aload_n 0, 1) := by decide +kernel
theorem dX11_cut_26 : decode cX11_cut 26 = .ok (.iload_n 1, 1) := by decide +kernel
theorem dX11_cut_27 : decode cX11_cut 27 = .ok (.iload_n 2, 1) := by decide +kernel
theorem dX11_cut_28 : decode cX11_cut 28 = .ok (.invokevirtual 140, 3) := by decide +kernel
theorem dX11_cut_31 : decode cX11_cut 31 = .ok (.istore_n 3, 1) := by decide +kernel
theorem dX11_cut_32 : decode cX11_cut 32 = .ok (.iconst (-1), 1) := by decide +kernel
theorem dX11_cut_33 : decode cX11_cut 33 = .ok (.istore 4, 2) := by decide +kernel
theorem dX11_cut_35 : decode cX11_cut 35 = .ok (.iconst 0, 1) := by decide +kernel
theorem dX11_cut_36 : decode cX11_cut 36 = .ok (.istore 5, 2) := by decide +kernel
theorem dX11_cut_38 : decode cX11_cut 38 = .ok (.iload 5, 2) := by decide +kernel
theorem dX11_cut_40 : decode cX11_cut 40 = .ok (.aload_n 0, 1) := by decide +kernel
theorem dX11_cut_41 : decode cX11_cut 41 = .ok (.getfield 12, 3) := by decide +kernel
theorem dX11_cut_44 : decode cX11_cut 44 = .ok (.getfield 185, 3) := by decide +kernel
theorem dX11_cut_47 : decode cX11_cut 47 = .ok (.if_icmp .ge 58, 3) := by decide +kernel
theorem dX11_cut_50 : decode cX11_cut 50 = .ok (.aload_n 0, 1) := by decide +kernel
theorem dX11_cut_51 : decode cX11_cut 51 = .ok (.getfield 16, 3) := by decide +kernel
theorem dX11_cut_54 : decode cX11_cut 54 = .ok (.aload_n 0, 1) := by decide +kernel
theorem dX11_cut_55 : decode cX11_cut 55 = .ok (.getfield 12, 3) := by decide +kernel
theorem dX11_cut_58 : decode cX11_cut 58 = .ok (.invokevirtual 97, 3) := by decide +kernel
theorem dX11_cut_61 : decode cX11_cut 61 = .ok (.aload_n 0, 1) := by decide +kernel
theorem dX11_cut_62 : decode cX11_cut 62 = .ok (.getfield 16, 3) := by decide +kernel
theorem dX11_cut_65 : decode cX11_cut 65 = .ok (.iload 5, 2) := by decide +kernel
theorem dX11_cut_67 : decode cX11_cut 67 = .ok (.invokevirtual 188, 3) := by decide +kernel
theorem dX11_cut_70 : decode cX11_cut 70 = .ok (.aload_n 0, 1) := by decide +kernel
theorem dX11_cut_71 : decode cX11_cut 71 = .ok (.getfield 44, 3) := by decide +kernel
theorem dX11_cut_74 : decode cX11_cut 74 = .ok (.aload_n 0, 1) := by decide +kernel
theorem dX11_cut_75 : decode cX11_cut 75 = .ok (.getfield 16, 3) := by decide +kernel
theorem dX11_cut_78 : decode cX11_cut 78 = .ok (.iload_n 1, 1) := by decide +kernel
theorem dX11_cut_79 : decode cX11_cut 79 = .ok (.iload_n 2, 1) := by decide +kernel
theorem dX11_cut_80 : decode cX11_cut 80 = .ok (.iload_n 3, 1) := by decide +kernel
theorem dX11_cut_81 : decode cX11_cut 81 = .ok (.invokevirtual 178, 3) := by decide +kernel
theorem dX11_cut_84 : decode cX11_cut 84 = .ok (.istore 6, 2) := by decide +kernel
theorem dX11_cut_86 : decode cX11_cut 86 = .ok (.iload 6, 2) := by decide +kernel
theorem dX11_cut_88 : decode cX11_cut 88 = .ok (.iconst (-1), 1) := by decide +kernel
theorem dX11_cut_89 : decode cX11_cut 89 = .ok (.if_icmp .eq 10, 3) := by decide +kernel
theorem dX11_cut_92 : decode cX11_cut 92 = .ok (.iload 6, 2) := by decide +kernel
theorem dX11_cut_94 : decode cX11_cut 94 = .ok (.istore_n 3, 1) := by decide +kernel
theorem dX11_cut_95 : decode cX11_cut 95 = .ok (.iload 5, 2) := by decide +kernel
theorem dX11_cut_97 : decode cX11_cut 97 = .ok (.istore 4, 2) := by decide +kernel
theorem dX11_cut_99 : decode cX11_cut 99 = .ok (.iinc 5 1, 3) := by decide +kernel
theorem dX11_cut_102 : decode cX11_cut 102 = .ok (.goto (-64), 3) := by decide +kernel
theorem dX11_cut_105 : decode cX11_cut 105 = .ok (.iload 4, 2) := by decide +kernel
theorem dX11_cut_107 : decode cX11_cut 107 = .ok (.ireturn, 1) := by decide +kernel
theorem dX11_tie_0 : decode cX11_tie 0 = .ok (.aload_n 0, 1) := by decide +kernel
theorem dX11_tie_1 : decode cX11_tie 1 = .ok (.getfield 12, 3) := by decide +kernel
theorem dX11_tie_4 : decode cX11_tie 4 = .ok (.iload_n 1, 1) := by decide +kernel
theorem dX11_tie_5 : decode cX11_tie 5 = .ok (.invokevirtual 134, 3) := by decide +kernel
theorem dX11_tie_8 : decode cX11_tie 8 = .ok (.ifCond .eq 10, 3) := by decide +kernel
theorem dX11_tie_11 : decode cX11_tie 11 = .ok (.iload_n 2, 1) := by decide +kernel
theorem dX11_tie_12 : decode cX11_tie 12 = .ok (.invokestatic 137, 3) := by decide +kernel
theorem dX11_tie_15 : decode cX11_tie 15 = .ok (.ifCond .ne 10, 3) := by decide +kernel
theorem dX11_tie_18 : decode cX11_tie 18 = .ok (.aload_n 0, 1) := by decide +kernel
theorem dX11_tie_19 : decode cX11_tie 19 = .ok (.bipush (-2), 2) := by decide +kernel
theorem dX11_tie_21 : decode cX11_tie 21 = .ok (.invokevirtual 52, 3) := by decide +kernel
theorem dX11_tie_24 : decode cX11_tie 24 = .ok (.ireturn, 1) := by decide +kernel
theorem dX11_tie_25 : decode cX11_tie 25 = .ok (.aload_n 0, 1) := by decide +kernel
theorem dX11_tie_26 : decode cX11_tie 26 = .ok (.iload_n 1, 1) := by decide +kernel
theorem dX11_tie_27 : decode cX11_tie 27 = .ok (.iload_n 2, 1) := by decide +kernel
theorem dX11_tie_28 : decode cX11_tie 28 = .ok (.invokevirtual 140, 3) := by decide +kernel
theorem dX11_tie_31 : decode cX11_tie 31 = .ok (.istore_n 3, 1) := by decide +kernel
theorem dX11_tie_32 : decode cX11_tie 32 = .ok (.iconst (-1), 1) := by decide +kernel
theorem dX11_tie_33 : decode cX11_tie 33 = .ok (.istore 4, 2) := by decide +kernel
theorem dX11_tie_35 : decode cX11_tie 35 = .ok (.iconst 0, 1) := by decide +kernel
theorem dX11_tie_36 : decode cX11_tie 36 = .ok (.istore 5, 2) := by decide +kernel
theorem dX11_tie_38 : decode cX11_tie 38 = .ok (.iload 5, 2) := by decide +kernel
theorem dX11_tie_40 : decode cX11_tie 40 = .ok (.aload_n 0, 1) := by decide +kernel
theorem dX11_tie_41 : decode cX11_tie 41 = .ok (.getfield 12, 3) := by decide +kernel
theorem dX11_tie_44 : decode cX11_tie 44 = .ok (.getfield 191, 3) := by decide +kernel
theorem dX11_tie_47 : decode cX11_tie 47 = .ok (.if_icmp .ge 110, 3) := by decide +kernel
theorem dX11_tie_50 : decode cX11_tie 50 = .ok (.iload 5, 2) := by decide +kernel
theorem dX11_tie_52 : decode cX11_tie 52 = .ok (.iconst 1, 1) := by decide +kernel
theorem dX11_tie_53 : decode cX11_tie 53 = .ok (.iadd, 1) := by decide +kernel
theorem dX11_tie_54 : decode cX11_tie 54 = .ok (.istore 6, 2) := by decide +kernel
theorem dX11_tie_56 : decode cX11_tie 56 = .ok (.iload 6, 2) := by decide +kernel
theorem dX11_tie_58 : decode cX11_tie 58 = .ok (.aload_n 0, 1) := by decide +kernel
theorem dX11_tie_59 : decode cX11_tie 59 = .ok (.getfield 12, 3) := by decide +kernel
theorem dX11_tie_62 : decode cX11_tie 62 = .ok (.getfield 191, 3) := by decide +kernel
theorem dX11_tie_65 : decode cX11_tie 65 = .ok (.if_icmp .ge 86, 3) := by decide +kernel
theorem dX11_tie_68 : decode cX11_tie 68 = .ok (.aload_n 0, 1) := by decide +kernel
theorem dX11_tie_69 : decode cX11_tie 69 = .ok (.getfield 16, 3) := by decide +kernel
theorem dX11_tie_72 : decode cX11_tie 72 = .ok (.aload_n 0, 1) := by decide +kernel
theorem dX11_tie_73 : decode cX11_tie 73 = .ok (.getfield 12, 3) := by decide +kernel
theorem dX11_tie_76 : decode cX11_tie 76 = .ok (.invokevirtual 97, 3) := by decide +kernel
theorem dX11_tie_79 : decode cX11_tie 79 = .ok (.aload_n 0, 1) := by decide +kernel
theorem dX11_tie_80 : decode cX11_tie 80 = .ok (.getfield 16, 3) := by decide +kernel
theorem dX11_tie_83 : decode cX11_tie 83 = .ok (.iload 5, 2) := by decide +kernel
theorem dX11_tie_85 : decode cX11_tie 85 = .ok (.iload 6, 2) := by decide +kernel
theorem dX11_tie_87 : decode cX11_tie 87 = .ok (.iconst 0, 1) := by decide +kernel
theorem dX11_tie_88 : decode cX11_tie 88 = .ok (.invokevirtual 56, 3) := by decide +kernel
theorem dX11_tie_91 : decode cX11_tie 91 = .ok (.ifCond .lt 7, 3) := by decide +kernel
theorem dX11_tie_94 : decode cX11_tie 94 = .ok (.iconst 1, 1) := by decide +kernel
theorem dX11_tie_95 : decode cX11_tie 95 = .ok (.goto 4, 3) := by decide +kernel
theorem dX11_tie_98 : decode cX11_tie 98 = .ok (.iconst 0, 1) := by decide +kernel
theorem dX11_tie_99 : decode cX11_tie 99 = .ok (.istore 7, 2) := by decide +kernel
theorem dX11_tie_101 : decode cX11_tie 101 = .ok (.iload 7, 2) := by decide +kernel
theorem dX11_tie_103 : decode cX11_tie 103 = .ok (.ifCond .eq 20, 3) := by decide +kernel
theorem dX11_tie_106 : decode cX11_tie 106 = .ok (.aload_n 0, 1) := by decide +kernel
theorem dX11_tie_107 : decode cX11_tie 107 = .ok (.getfield 44, 3) := by decide +kernel
theorem dX11_tie_110 : decode cX11_tie 110 = .ok (.aload_n 0, 1) := by decide +kernel
theorem dX11_tie_111 : decode cX11_tie 111 = .ok (.getfield 16, 3) := by decide +kernel
theorem dX11_tie_114 : decode cX11_tie 114 = .ok (.iload_n 1, 1) := by decide +kernel
theorem dX11_tie_115 : decode cX11_tie 115 = .ok (.iload_n 2, 1) := by decide +kernel
theorem dX11_tie_116 : decode cX11_tie 116 = .ok (.iload_n 3, 1) := by decide +kernel
theorem dX11_tie_117 : decode cX11_tie 117 = .ok (.invokevirtual 178, 3) := by decide +kernel
theorem dX11_tie_120 : decode cX11_tie 120 = .ok (.goto 4, 3) := by decide +kernel
theorem dX11_tie_123 : decode cX11_tie 123 = .ok (.iconst (-1), 1) := by decide +kernel
theorem dX11_tie_124 : decode cX11_tie 124 = .ok (.istore 8, 2) := by decide +kernel
theorem dX11_tie_126 : decode cX11_tie 126 = .ok (.iload 8, 2) := by decide +kernel
theorem dX11_tie_128 : decode cX11_tie 128 = .ok (.iconst (-1), 1) := by decide +kernel
theorem dX11_tie_129 : decode cX11_tie 129 = .ok (.if_icmp .eq 16, 3) := by decide +kernel
theorem dX11_tie_132 : decode cX11_tie 132 = .ok (.iload 8, 2) := by decide +kernel
theorem dX11_tie_134 : decode cX11_tie 134 = .ok (.istore_n 3, 1) := by decide +kernel
theorem dX11_tie_135 : decode cX11_tie 135 = .ok (.bipush 10, 2) := by decide +kernel
theorem dX11_tie_137 : decode cX11_tie 137 = .ok (.iload 5, 2) := by decide +kernel
theorem dX11_tie_139 : decode cX11_tie 139 = .ok (.imul, 1) := by decide +kernel
theorem dX11_tie_140 : decode cX11_tie 140 = .ok (.iload 6, 2) := by decide +kernel
theorem dX11_tie_142 : decode cX11_tie 142 = .ok (.iadd, 1) := by decide +kernel
theorem dX11_tie_143 : decode cX11_tie 143 = .ok (.istore 4, 2) := by decide +kernel
theorem dX11_tie_145 : decode cX11_tie 145 = .ok (.iinc 6 1, 3) := by decide +kernel
theorem dX11_tie_148 : decode cX11_tie 148 = .ok (.goto (-92), 3) := by decide +kernel
theorem dX11_tie_151 : decode cX11_tie 151 = .ok (.iinc 5 1, 3) := by decide +kernel
theorem dX11_tie_154 : decode cX11_tie 154 = .ok (.goto (-116), 3) := by decide +kernel
theorem dX11_tie_157 : decode cX11_tie 157 = .ok (.iload 4, 2) := by decide +kernel
theorem dX11_tie_159 : decode cX11_tie 159 = .ok (.ireturn, 1) := by decide +kernel
theorem dX11_stone_0 : decode cX11_stone 0 = .ok (.aload_n 0, 1) := by decide +kernel
theorem dX11_stone_1 : decode cX11_stone 1 = .ok (.getfield 12, 3) := by decide +kernel
theorem dX11_stone_4 : decode cX11_stone 4 = .ok (.iload_n 1, 1) := by decide +kernel
theorem dX11_stone_5 : decode cX11_stone 5 = .ok (.invokevirtual 134, 3) := by decide +kernel
theorem dX11_stone_8 : decode cX11_stone 8 = .ok (.ifCond .eq 17, 3) := by decide +kernel
theorem dX11_stone_11 : decode cX11_stone 11 = .ok (.iload_n 2, 1) := by decide +kernel
theorem dX11_stone_12 : decode cX11_stone 12 = .ok (.invokestatic 137, 3) := by decide +kernel
theorem dX11_stone_15 : decode cX11_stone 15 = .ok (.ifCond .eq 10, 3) := by decide +kernel
theorem dX11_stone_18 : decode cX11_stone 18 = .ok (.iload_n 3, 1) := by decide +kernel
theorem dX11_stone_19 : decode cX11_stone 19 = .ok (.invokestatic 194, 3) := by decide +kernel
theorem dX11_stone_22 : decode cX11_stone 22 = .ok (.ifCond .ne 10, 3) := by decide +kernel
theorem dX11_stone_25 : decode cX11_stone 25 = .ok (.aload_n 0, 1) := by decide +kernel
theorem dX11_stone_26 : decode cX11_stone 26 = .ok (.bipush (-2), 2) := by decide +kernel
theorem dX11_stone_28 : decode cX11_stone 28 = .ok (.invokevirtual 52, 3) := by decide +kernel
theorem dX11_stone_31 : decode cX11_stone 31 = .ok (.ireturn, 1) := by decide +kernel
theorem dX11_stone_32 : decode cX11_stone 32 = .ok (.aload_n 0, 1) := by decide +kernel
theorem dX11_stone_33 : decode cX11_stone 33 = .ok (.iload_n 1, 1) := by decide +kernel
theorem dX11_stone_34 : decode cX11_stone 34 = .ok (.iload_n 2, 1) := by decide +kernel
theorem dX11_stone_35 : decode cX11_stone 35 = .ok (.invokevirtual 140, 3) := by decide +kernel
theorem dX11_stone_38 : decode cX11_stone 38 = .ok (.istore 4, 2) := by decide +kernel
theorem dX11_stone_40 : decode cX11_stone 40 = .ok (.iconst (-1), 1) := by decide +kernel
theorem dX11_stone_41 : decode cX11_stone 41 = .ok (.istore 5, 2) := by decide +kernel
theorem dX11_stone_43 : decode cX11_stone 43 = .ok (.iconst 0, 1) := by decide +kernel
theorem dX11_stone_44 : decode cX11_stone 44 = .ok (.istore 6, 2) := by decide +kernel
theorem dX11_stone_46 : decode cX11_stone 46 = .ok (.iload 6, 2) := by decide +kernel
theorem dX11_stone_48 : decode cX11_stone 48 = .ok (.aload_n 0, 1) := by decide +kernel
theorem dX11_stone_49 : decode cX11_stone 49 = .ok (.getfield 12, 3) := by decide +kernel
theorem dX11_stone_52 : decode cX11_stone 52 = .ok (.getfield 191, 3) := by decide +kernel
theorem dX11_stone_55 : decode cX11_stone 55 = .ok (.if_icmp .ge 63, 3) := by decide +kernel
theorem dX11_stone_58 : decode cX11_stone 58 = .ok (.aload_n 0, 1) := by decide +kernel
theorem dX11_stone_59 : decode cX11_stone 59 = .ok (.getfield 16, 3) := by decide +kernel
theorem dX11_stone_62 : decode cX11_stone 62 = .ok (.aload_n 0, 1) := by decide +kernel
theorem dX11_stone_63 : decode cX11_stone 63 = .ok (.getfield 12, 3) := by decide +kernel
theorem dX11_stone_66 : decode cX11_stone 66 = .ok (.invokevirtual 97, 3) := by decide +kernel
theorem dX11_stone_69 : decode cX11_stone 69 = .ok (.aload_n 0, 1) := by decide +kernel
theorem dX11_stone_70 : decode cX11_stone 70 = .ok (.getfield 16, 3) := by decide +kernel
theorem dX11_stone_73 : decode cX11_stone 73 = .ok (.iconst 1, 1) := by decide +kernel
theorem dX11_stone_74 : decode cX11_stone 74 = .ok (.iload 6, 2) := by decide +kernel
theorem dX11_stone_76 : decode cX11_stone 76 = .ok (.ishl, 1) := by decide +kernel
theorem dX11_stone_77 : decode cX11_stone 77 = .ok (.iload_n 3, 1) := by decide +kernel
theorem dX11_stone_78 : decode cX11_stone 78 = .ok (.invokevirtual 197, 3) := by decide +kernel
theorem dX11_stone_81 : decode cX11_stone 81 = .ok (.aload_n 0, 1) := by decide +kernel
theorem dX11_stone_82 : decode cX11_stone 82 = .ok (.getfield 44, 3) := by decide +kernel
theorem dX11_stone_85 : decode cX11_stone 85 = .ok (.aload_n 0, 1) := by decide +kernel
theorem dX11_stone_86 : decode cX11_stone 86 = .ok (.getfield 16, 3) := by decide +kernel
theorem dX11_stone_89 : decode cX11_stone 89 = .ok (.iload_n 1, 1) := by decide +kernel
theorem dX11_stone_90 : decode cX11_stone 90 = .ok (.iload_n 2, 1) := by decide +kernel
theorem dX11_stone_91 : decode cX11_stone 91 = .ok (.iload 4, 2) := by decide +kernel
theorem dX11_stone_93 : decode cX11_stone 93 = .ok (.invokevirtual 178, 3) := by decide +kernel
theorem dX11_stone_96 : decode cX11_stone 96 = .ok (.istore 7, 2) := by decide +kernel
theorem dX11_stone_98 : decode cX11_stone 98 = .ok (.iload 7, 2) := by decide +kernel
theorem dX11_stone_100 : decode cX11_stone 100 = .ok (.iconst (-1), 1) := by decide +kernel
theorem dX11_stone_101 : decode cX11_stone 101 = .ok (.if_icmp .eq 11, 3) := by decide +kernel
theorem dX11_stone_104 : decode cX11_stone 104 = .ok (.iload 7, 2) := by decide +kernel
theorem dX11_stone_106 : decode cX11_stone 106 = .ok (.istore 4, 2) := by decide +kernel
theorem dX11_stone_108 : decode cX11_stone 108 = .ok (.iload 6, 2) := by decide +kernel
theorem dX11_stone_110 : decode cX11_stone 110 = .ok (.istore 5, 2) := by decide +kernel
theorem dX11_stone_112 : decode cX11_stone 112 = .ok (.iinc 6 1, 3) := by decide +kernel
theorem dX11_stone_115 : decode cX11_stone 115 = .ok (.goto (-69), 3) := by decide +kernel
theorem dX11_stone_118 : decode cX11_stone 118 = .ok (.iload 5, 2) := by decide +kernel
theorem dX11_stone_120 : decode cX11_stone 120 = .ok (.ireturn, 1) := by decide +kernel
theorem dX11_keep_0 : decode cX11_keep 0 = .ok (.aload_n 0, 1) := by decide +kernel
theorem dX11_keep_1 : decode cX11_keep 1 = .ok (.getfield 12, 3) := by decide +kernel
theorem dX11_keep_4 : decode cX11_keep 4 = .ok (.iload_n 1, 1) := by decide +kernel
theorem dX11_keep_5 : decode cX11_keep 5 = .ok (.invokevirtual 74, 3) := by decide +kernel
theorem dX11_keep_8 : decode cX11_keep 8 = .ok (.ifCond .eq 17, 3) := by decide +kernel
theorem dX11_keep_11 : decode cX11_keep 11 = .ok (.iload_n 2, 1) := by decide +kernel
theorem dX11_keep_12 : decode cX11_keep 12 = .ok (.invokestatic 137, 3) := by decide +kernel
theorem dX11_keep_15 : decode cX11_keep 15 = .ok (.ifCond .eq 10, 3) := by decide +kernel
theorem dX11_keep_18 : decode cX11_keep 18 = .ok (.iload_n 3, 1) := by decide +kernel
theorem dX11_keep_19 : decode cX11_keep 19 = .ok (.invokestatic 194, 3) := by decide +kernel
theorem dX11_keep_22 : decode cX11_keep 22 = .ok (.ifCond .ne 10, 3) := by decide +kernel
theorem dX11_keep_25 : decode cX11_keep 25 = .ok (.aload_n 0, 1) := by decide +kernel
theorem dX11_keep_26 : decode cX11_keep 26 = .ok (.bipush (-2), 2) := by decide +kernel
theorem dX11_keep_28 : decode cX11_keep 28 = .ok (.invokevirtual 52, 3) := by decide +kernel
theorem dX11_keep_31 : decode cX11_keep 31 = .ok (.ireturn, 1) := by decide +kernel
theorem dX11_keep_32 : decode cX11_keep 32 = .ok (.iconst 0, 1) := by decide +kernel
theorem dX11_keep_33 : decode cX11_keep 33 = .ok (.istore 4, 2) := by decide +kernel
theorem dX11_keep_35 : decode cX11_keep 35 = .ok (.iload 4, 2) := by decide +kernel
theorem dX11_keep_37 : decode cX11_keep 37 = .ok (.aload_n 0, 1) := by decide +kernel
theorem dX11_keep_38 : decode cX11_keep 38 = .ok (.getfield 12, 3) := by decide +kernel
theorem dX11_keep_41 : decode cX11_keep 41 = .ok (.getfield 191, 3) := by decide +kernel
theorem dX11_keep_44 : decode cX11_keep 44 = .ok (.if_icmp .gt 90, 3) := by decide +kernel
theorem dX11_keep_47 : decode cX11_keep 47 = .ok (.iconst 0, 1) := by decide +kernel
theorem dX11_keep_48 : decode cX11_keep 48 = .ok (.istore 5, 2) := by decide +kernel
theorem dX11_keep_50 : decode cX11_keep 50 = .ok (.iload 5, 2) := by decide +kernel
theorem dX11_keep_52 : decode cX11_keep 52 = .ok (.aload_n 0, 1) := by decide +kernel
theorem dX11_keep_53 : decode cX11_keep 53 = .ok (.getfield 12, 3) := by decide +kernel
theorem dX11_keep_56 : decode cX11_keep 56 = .ok (.invokevirtual 157, 3) := by decide +kernel
theorem dX11_keep_59 : decode cX11_keep 59 = .ok (.if_icmp .gt 69, 3) := by decide +kernel
theorem dX11_keep_62 : decode cX11_keep 62 = .ok (.iload 5, 2) := by decide +kernel
theorem dX11_keep_64 : decode cX11_keep 64 = .ok (.invokestatic 152, 3) := by decide +kernel
theorem dX11_keep_67 : decode cX11_keep 67 = .ok (.iload 4, 2) := by decide +kernel
theorem dX11_keep_69 : decode cX11_keep 69 = .ok (.if_icmp .ne 53, 3) := by decide +kernel
theorem dX11_keep_72 : decode cX11_keep 72 = .ok (.aload_n 0, 1) := by decide +kernel
theorem dX11_keep_73 : decode cX11_keep 73 = .ok (.getfield 16, 3) := by decide +kernel
theorem dX11_keep_76 : decode cX11_keep 76 = .ok (.aload_n 0, 1) := by decide +kernel
theorem dX11_keep_77 : decode cX11_keep 77 = .ok (.getfield 12, 3) := by decide +kernel
theorem dX11_keep_80 : decode cX11_keep 80 = .ok (.invokevirtual 97, 3) := by decide +kernel
theorem dX11_keep_83 : decode cX11_keep 83 = .ok (.aload_n 0, 1) := by decide +kernel
theorem dX11_keep_84 : decode cX11_keep 84 = .ok (.getfield 16, 3) := by decide +kernel
theorem dX11_keep_87 : decode cX11_keep 87 = .ok (.iload_n 1, 1) := by decide +kernel
theorem dX11_keep_88 : decode cX11_keep 88 = .ok (.invokevirtual 200, 3) := by decide +kernel
theorem dX11_keep_91 : decode cX11_keep 91 = .ok (.aload_n 0, 1) := by decide +kernel
theorem dX11_keep_92 : decode cX11_keep 92 = .ok (.getfield 16, 3) := by decide +kernel
theorem dX11_keep_95 : decode cX11_keep 95 = .ok (.iload 5, 2) := by decide +kernel
theorem dX11_keep_97 : decode cX11_keep 97 = .ok (.iload_n 3, 1) := by decide +kernel
theorem dX11_keep_98 : decode cX11_keep 98 = .ok (.invokevirtual 197, 3) := by decide +kernel
theorem dX11_keep_101 : decode cX11_keep 101 = .ok (.aload_n 0, 1) := by decide +kernel
theorem dX11_keep_102 : decode cX11_keep 102 = .ok (.getfield 44, 3) := by decide +kernel
theorem dX11_keep_105 : decode cX11_keep 105 = .ok (.aload_n 0, 1) := by decide +kernel
theorem dX11_keep_106 : decode cX11_keep 106 = .ok (.getfield 16, 3) := by decide +kernel
theorem dX11_keep_109 : decode cX11_keep 109 = .ok (.iconst 1, 1) := by decide +kernel
theorem dX11_keep_110 : decode cX11_keep 110 = .ok (.iload_n 2, 1) := by decide +kernel
theorem dX11_keep_111 : decode cX11_keep 111 = .ok (.iconst (-1), 1) := by decide +kernel
theorem dX11_keep_112 : decode cX11_keep 112 = .ok (.invokevirtual 178, 3) := by decide +kernel
theorem dX11_keep_115 : decode cX11_keep 115 = .ok (.iconst (-1), 1) := by decide +kernel
theorem dX11_keep_116 : decode cX11_keep 116 = .ok (.if_icmp .ne 6, 3) := by decide +kernel
theorem dX11_keep_119 : decode cX11_keep 119 = .ok (.iload 5, 2) := by decide +kernel
theorem dX11_keep_121 : decode cX11_keep 121 = .ok (.ireturn, 1) := by decide +kernel
theorem dX11_keep_122 : decode cX11_keep 122 = .ok (.iinc 5 1, 3) := by decide +kernel
theorem dX11_keep_125 : decode cX11_keep 125 = .ok (.goto (-75), 3) := by decide +kernel
theorem dX11_keep_128 : decode cX11_keep 128 = .ok (.iinc 4 1, 3) := by decide +kernel
theorem dX11_keep_131 : decode cX11_keep 131 = .ok (.goto (-96), 3) := by decide +kernel
theorem dX11_keep_134 : decode cX11_keep 134 = .ok (.iconst (-1), 1) := by decide +kernel
theorem dX11_keep_135 : decode cX11_keep 135 = .ok (.ireturn, 1) := by decide +kernel
theorem dX11_wet_0 : decode cX11_wet 0 = .ok (.aload_n 0, 1) := by decide +kernel
theorem dX11_wet_1 : decode cX11_wet 1 = .ok (.getfield 12, 3) := by decide +kernel
theorem dX11_wet_4 : decode cX11_wet 4 = .ok (.iload_n 1, 1) := by decide +kernel
theorem dX11_wet_5 : decode cX11_wet 5 = .ok (.invokevirtual 74, 3) := by decide +kernel
theorem dX11_wet_8 : decode cX11_wet 8 = .ok (.ifCond .eq 30, 3) := by decide +kernel
theorem dX11_wet_11 : decode cX11_wet 11 = .ok (.aload_n 0, 1) := by decide +kernel
theorem dX11_wet_12 : decode cX11_wet 12 = .ok (.getfield 12, 3) := by decide +kernel
theorem dX11_wet_15 : decode cX11_wet 15 = .ok (.iload_n 3, 1) := by decide +kernel
theorem dX11_wet_16 : decode cX11_wet 16 = .ok (.invokevirtual 101, 3) := by decide +kernel
theorem dX11_wet_19 : decode cX11_wet 19 = .ok (.ifCond .eq 19, 3) := by decide +kernel
theorem dX11_wet_22 : decode cX11_wet 22 = .ok (.aload_n 0, 1) := by decide +kernel
theorem dX11_wet_23 : decode cX11_wet 23 = .ok (.getfield 12, 3) := by decide +kernel
theorem dX11_wet_26 : decode cX11_wet 26 = .ok (.iload 4, 2) := by decide +kernel
theorem dX11_wet_28 : decode cX11_wet 28 = .ok (.invokevirtual 166, 3) := by decide +kernel
theorem dX11_wet_31 : decode cX11_wet 31 = .ok (.ifCond .eq 7, 3) := by decide +kernel
theorem dX11_wet_34 : decode cX11_wet 34 = .ok (.iconst 1, 1) := by decide +kernel
theorem dX11_wet_35 : decode cX11_wet 35 = .ok (.goto 4, 3) := by decide +kernel
theorem dX11_wet_38 : decode cX11_wet 38 = .ok (.iconst 0, 1) := by decide +kernel
theorem dX11_wet_39 : decode cX11_wet 39 = .ok (.istore 5, 2) := by decide +kernel
theorem dX11_wet_41 : decode cX11_wet 41 = .ok (.iload 5, 2) := by decide +kernel
theorem dX11_wet_43 : decode cX11_wet 43 = .ok (.ifCond .eq 13, 3) := by decide +kernel
theorem dX11_wet_46 : decode cX11_wet 46 = .ok (.iload_n 2, 1) := by decide +kernel
theorem dX11_wet_47 : decode cX11_wet 47 = .ok (.ifCond .lt 9, 3) := by decide +kernel
theorem dX11_wet_50 : decode cX11_wet 50 = .ok (.iload_n 2, 1) := by decide +kernel
theorem dX11_wet_51 : decode cX11_wet 51 = .ok (.bipush 6, 2) := by decide +kernel
theorem dX11_wet_53 : decode cX11_wet 53 = .ok (.if_icmp .le 10, 3) := by decide +kernel
theorem dX11_wet_56 : decode cX11_wet 56 = .ok (.aload_n 0, 1) := by decide +kernel
theorem dX11_wet_57 : decode cX11_wet 57 = .ok (.bipush (-2), 2) := by decide +kernel
theorem dX11_wet_59 : decode cX11_wet 59 = .ok (.invokevirtual 52, 3) := by decide +kernel
theorem dX11_wet_62 : decode cX11_wet 62 = .ok (.ireturn, 1) := by decide +kernel
theorem dX11_wet_63 : decode cX11_wet 63 = .ok (.aload_n 0, 1) := by decide +kernel
theorem dX11_wet_64 : decode cX11_wet 64 = .ok (.getfield 16, 3) := by decide +kernel
theorem dX11_wet_67 : decode cX11_wet 67 = .ok (.aload_n 0, 1) := by decide +kernel
theorem dX11_wet_68 : decode cX11_wet 68 = .ok (.getfield 12, 3) := by decide +kernel
theorem dX11_wet_71 : decode cX11_wet 71 = .ok (.invokevirtual 97, 3) := by decide +kernel
theorem dX11_wet_74 : decode cX11_wet 74 = .ok (.aload_n 0, 1) := by decide +kernel
theorem dX11_wet_75 : decode cX11_wet 75 = .ok (.getfield 16, 3) := by decide +kernel
theorem dX11_wet_78 : decode cX11_wet 78 = .ok (.iload_n 1, 1) := by decide +kernel
theorem dX11_wet_79 : decode cX11_wet 79 = .ok (.invokevirtual 200, 3) := by decide +kernel
theorem dX11_wet_82 : decode cX11_wet 82 = .ok (.aload_n 0, 1) := by decide +kernel
theorem dX11_wet_83 : decode cX11_wet 83 = .ok (.getfield 16, 3) := by decide +kernel
theorem dX11_wet_86 : decode cX11_wet 86 = .ok (.iload_n 2, 1) := by decide +kernel
theorem dX11_wet_87 : decode cX11_wet 87 = .ok (.iload_n 3, 1) := by decide +kernel
theorem dX11_wet_88 : decode cX11_wet 88 = .ok (.iload 4, 2) := by decide +kernel
theorem dX11_wet_90 : decode cX11_wet 90 = .ok (.iconst 0, 1) := by decide +kernel
theorem dX11_wet_91 : decode cX11_wet 91 = .ok (.invokestatic 203, 3) := by decide +kernel
theorem dX11_wet_94 : decode cX11_wet 94 = .ok (.ireturn, 1) := by decide +kernel
theorem dX11_image_0 : decode cX11_image 0 = .ok (.iload_n 1, 1) := by decide +kernel
theorem dX11_image_1 : decode cX11_image 1 = .ok (.invokestatic 207, 3) := by decide +kernel
theorem dX11_image_4 : decode cX11_image 4 = .ok (.ifCond .ne 10, 3) := by decide +kernel
theorem dX11_image_7 : decode cX11_image 7 = .ok (.aload_n 0, 1) := by decide +kernel
theorem dX11_image_8 : decode cX11_image 8 = .ok (.bipush (-2), 2) := by decide +kernel
theorem dX11_image_10 : decode cX11_image 10 = .ok (.invokevirtual 52, 3) := by decide +kernel
theorem dX11_image_13 : decode cX11_image 13 = .ok (.ireturn, 1) := by decide +kernel
theorem dX11_image_14 : decode cX11_image 14 = .ok (.aload_n 0, 1) := by decide +kernel
theorem dX11_image_15 : decode cX11_image 15 = .ok (.getfield 19, 3) := by decide +kernel
theorem dX11_image_18 : decode cX11_image 18 = .ok (.iload_n 1, 1) := by decide +kernel
theorem dX11_image_19 : decode cX11_image 19 = .ok (.aaload, 1) := by decide +kernel
theorem dX11_image_20 : decode cX11_image 20 = .ok (.aload_n 0, 1) := by decide +kernel
theorem dX11_image_21 : decode cX11_image 21 = .ok (.getfield 12, 3) := by decide +kernel
theorem dX11_image_24 : decode cX11_image 24 = .ok (.invokevirtual 97, 3) := by decide +kernel
theorem dX11_image_27 : decode cX11_image 27 = .ok (.aload_n 0, 1) := by decide +kernel
theorem dX11_image_28 : decode cX11_image 28 = .ok (.getfield 23, 3) := by decide +kernel
theorem dX11_image_31 : decode cX11_image 31 = .ok (.iload_n 1, 1) := by decide +kernel
theorem dX11_image_32 : decode cX11_image 32 = .ok (.iconst 1, 1) := by decide +kernel
theorem dX11_image_33 : decode cX11_image 33 = .ok (.bastore, 1) := by decide +kernel
theorem dX11_image_34 : decode cX11_image 34 = .ok (.iconst 1, 1) := by decide +kernel
theorem dX11_image_35 : decode cX11_image 35 = .ok (.ireturn, 1) := by decide +kernel
theorem dX11_from_0 : decode cX11_from 0 = .ok (.iload_n 1, 1) := by decide +kernel
theorem dX11_from_1 : decode cX11_from 1 = .ok (.invokestatic 207, 3) := by decide +kernel
theorem dX11_from_4 : decode cX11_from 4 = .ok (.ifCond .ne 10, 3) := by decide +kernel
theorem dX11_from_7 : decode cX11_from 7 = .ok (.aload_n 0, 1) := by decide +kernel
theorem dX11_from_8 : decode cX11_from 8 = .ok (.bipush (-2), 2) := by decide +kernel
theorem dX11_from_10 : decode cX11_from 10 = .ok (.invokevirtual 52, 3) := by decide +kernel
theorem dX11_from_13 : decode cX11_from 13 = .ok (.ireturn, 1) := by decide +kernel
theorem dX11_from_14 : decode cX11_from 14 = .ok (.aload_n 0, 1) := by decide +kernel
theorem dX11_from_15 : decode cX11_from 15 = .ok (.getfield 23, 3) := by decide +kernel
theorem dX11_from_18 : decode cX11_from 18 = .ok (.iload_n 1, 1) := by decide +kernel
theorem dX11_from_19 : decode cX11_from 19 = .ok (.baload, 1) := by decide +kernel
theorem dX11_from_20 : decode cX11_from 20 = .ok (.ifCond .ne 10, 3) := by decide +kernel
theorem dX11_from_23 : decode cX11_from 23 = .ok (.aload_n 0, 1) := by decide +kernel
theorem dX11_from_24 : decode cX11_from 24 = .ok (.bipush (-3), 2) := by decide +kernel
theorem dX11_from_26 : decode cX11_from 26 = .ok (.invokevirtual 52, 3) := by decide +kernel
theorem dX11_from_29 : decode cX11_from 29 = .ok (.ireturn, 1) := by decide +kernel
theorem dX11_from_30 : decode cX11_from 30 = .ok (.aload_n 0, 1) := by decide +kernel
theorem dX11_from_31 : decode cX11_from 31 = .ok (.getfield 12, 3) := by decide +kernel
theorem dX11_from_34 : decode cX11_from 34 = .ok (.aload_n 0, 1) := by decide +kernel
theorem dX11_from_35 : decode cX11_from 35 = .ok (.getfield 19, 3) := by decide +kernel
theorem dX11_from_38 : decode cX11_from 38 = .ok (.iload_n 1, 1) := by decide +kernel
theorem dX11_from_39 : decode cX11_from 39 = .ok (.aaload, 1) := by decide +kernel
theorem dX11_from_40 : decode cX11_from 40 = .ok (.invokevirtual 97, 3) := by decide +kernel
theorem dX11_from_43 : decode cX11_from 43 = .ok (.iconst 1, 1) := by decide +kernel
theorem dX11_from_44 : decode cX11_from 44 = .ok (.ireturn, 1) := by decide +kernel
theorem dX11_status_0 : decode cX11_status 0 = .ok (.iload_n 1, 1) := by decide +kernel
theorem dX11_status_1 : decode cX11_status 1 = .ok (.tableswitch 42 0 2 #[27, 32, 37], 27) := by decide +kernel
theorem dX11_status_28 : decode cX11_status 28 = .ok (.aload_n 0, 1) := by decide +kernel
theorem dX11_status_29 : decode cX11_status 29 = .ok (.getfield 210, 3) := by decide +kernel
theorem dX11_status_32 : decode cX11_status 32 = .ok (.ireturn, 1) := by decide +kernel
theorem dX11_status_33 : decode cX11_status 33 = .ok (.aload_n 0, 1) := by decide +kernel
theorem dX11_status_34 : decode cX11_status 34 = .ok (.getfield 213, 3) := by decide +kernel
theorem dX11_status_37 : decode cX11_status 37 = .ok (.ireturn, 1) := by decide +kernel
theorem dX11_status_38 : decode cX11_status 38 = .ok (.aload_n 0, 1) := by decide +kernel
theorem dX11_status_39 : decode cX11_status 39 = .ok (.getfield 216, 3) := by decide +kernel
theorem dX11_status_42 : decode cX11_status 42 = .ok (.ireturn, 1) := by decide +kernel
theorem dX11_status_43 : decode cX11_status 43 = .ok (.aload_n 0, 1) := by decide +kernel
theorem dX11_status_44 : decode cX11_status 44 = .ok (.bipush (-2), 2) := by decide +kernel
theorem dX11_status_46 : decode cX11_status 46 = .ok (.invokevirtual 52, 3) := by decide +kernel
theorem dX11_status_49 : decode cX11_status 49 = .ok (.pop, 1) := by decide +kernel
theorem dX11_status_50 : decode cX11_status 50 = .ok (.iconst (-1), 1) := by decide +kernel
theorem dX11_status_51 : decode cX11_status 51 = .ok (.ireturn, 1) := by decide +kernel
theorem dX11_count_0 : decode cX11_count 0 = .ok (.iload_n 1, 1) := by decide +kernel
theorem dX11_count_1 : decode cX11_count 1 = .ok (.tableswitch 78 0 4 #[35, 43, 51, 59, 70], 35) := by decide +kernel
theorem dX11_count_36 : decode cX11_count 36 = .ok (.aload_n 0, 1) := by decide +kernel
theorem dX11_count_37 : decode cX11_count 37 = .ok (.getfield 12, 3) := by decide +kernel
theorem dX11_count_40 : decode cX11_count 40 = .ok (.getfield 191, 3) := by decide +kernel
theorem dX11_count_43 : decode cX11_count 43 = .ok (.ireturn, 1) := by decide +kernel
theorem dX11_count_44 : decode cX11_count 44 = .ok (.aload_n 0, 1) := by decide +kernel
theorem dX11_count_45 : decode cX11_count 45 = .ok (.getfield 12, 3) := by decide +kernel
theorem dX11_count_48 : decode cX11_count 48 = .ok (.getfield 185, 3) := by decide +kernel
theorem dX11_count_51 : decode cX11_count 51 = .ok (.ireturn, 1) := by decide +kernel
theorem dX11_count_52 : decode cX11_count 52 = .ok (.aload_n 0, 1) := by decide +kernel
theorem dX11_count_53 : decode cX11_count 53 = .ok (.getfield 12, 3) := by decide +kernel
theorem dX11_count_56 : decode cX11_count 56 = .ok (.getfield 219, 3) := by decide +kernel
theorem dX11_count_59 : decode cX11_count 59 = .ok (.ireturn, 1) := by decide +kernel
theorem dX11_count_60 : decode cX11_count 60 = .ok (.aload_n 0, 1) := by decide +kernel
theorem dX11_count_61 : decode cX11_count 61 = .ok (.getfield 12, 3) := by decide +kernel
theorem dX11_count_64 : decode cX11_count 64 = .ok (.getfield 108, 3) := by decide +kernel
theorem dX11_count_67 : decode cX11_count 67 = .ok (.getfield 125, 3) := by decide +kernel
theorem dX11_count_70 : decode cX11_count 70 = .ok (.ireturn, 1) := by decide +kernel
theorem dX11_count_71 : decode cX11_count 71 = .ok (.aload_n 0, 1) := by decide +kernel
theorem dX11_count_72 : decode cX11_count 72 = .ok (.getfield 30, 3) := by decide +kernel
theorem dX11_count_75 : decode cX11_count 75 = .ok (.getfield 222, 3) := by decide +kernel
theorem dX11_count_78 : decode cX11_count 78 = .ok (.ireturn, 1) := by decide +kernel
theorem dX11_count_79 : decode cX11_count 79 = .ok (.aload_n 0, 1) := by decide +kernel
theorem dX11_count_80 : decode cX11_count 80 = .ok (.bipush (-2), 2) := by decide +kernel
theorem dX11_count_82 : decode cX11_count 82 = .ok (.invokevirtual 52, 3) := by decide +kernel
theorem dX11_count_85 : decode cX11_count 85 = .ok (.ireturn, 1) := by decide +kernel
theorem dX11_digest_0 : decode cX11_digest 0 = .ok (.ldc2_w 225, 3) := by decide +kernel
theorem dX11_digest_3 : decode cX11_digest 3 = .ok (.lstore_n 1, 1) := by decide +kernel
theorem dX11_digest_4 : decode cX11_digest 4 = .ok (.ldc2_w 227, 3) := by decide +kernel
theorem dX11_digest_7 : decode cX11_digest 7 = .ok (.lload_n 1, 1) := by decide +kernel
theorem dX11_digest_8 : decode cX11_digest 8 = .ok (.lmul, 1) := by decide +kernel
theorem dX11_digest_9 : decode cX11_digest 9 = .ok (.aload_n 0, 1) := by decide +kernel
theorem dX11_digest_10 : decode cX11_digest 10 = .ok (.getfield 12, 3) := by decide +kernel
theorem dX11_digest_13 : decode cX11_digest 13 = .ok (.getfield 191, 3) := by decide +kernel
theorem dX11_digest_16 : decode cX11_digest 16 = .ok (.i2l, 1) := by decide +kernel
theorem dX11_digest_17 : decode cX11_digest 17 = .ok (.ladd, 1) := by decide +kernel
theorem dX11_digest_18 : decode cX11_digest 18 = .ok (.lstore_n 1, 1) := by decide +kernel
theorem dX11_digest_19 : decode cX11_digest 19 = .ok (.ldc2_w 227, 3) := by decide +kernel
theorem dX11_digest_22 : decode cX11_digest 22 = .ok (.lload_n 1, 1) := by decide +kernel
theorem dX11_digest_23 : decode cX11_digest 23 = .ok (.lmul, 1) := by decide +kernel
theorem dX11_digest_24 : decode cX11_digest 24 = .ok (.aload_n 0, 1) := by decide +kernel
theorem dX11_digest_25 : decode cX11_digest 25 = .ok (.getfield 12, 3) := by decide +kernel
theorem dX11_digest_28 : decode cX11_digest 28 = .ok (.getfield 185, 3) := by decide +kernel
theorem dX11_digest_31 : decode cX11_digest 31 = .ok (.i2l, 1) := by decide +kernel
theorem dX11_digest_32 : decode cX11_digest 32 = .ok (.ladd, 1) := by decide +kernel
theorem dX11_digest_33 : decode cX11_digest 33 = .ok (.lstore_n 1, 1) := by decide +kernel
theorem dX11_digest_34 : decode cX11_digest 34 = .ok (.ldc2_w 227, 3) := by decide +kernel
theorem dX11_digest_37 : decode cX11_digest 37 = .ok (.lload_n 1, 1) := by decide +kernel
theorem dX11_digest_38 : decode cX11_digest 38 = .ok (.lmul, 1) := by decide +kernel
theorem dX11_digest_39 : decode cX11_digest 39 = .ok (.aload_n 0, 1) := by decide +kernel
theorem dX11_digest_40 : decode cX11_digest 40 = .ok (.getfield 12, 3) := by decide +kernel
theorem dX11_digest_43 : decode cX11_digest 43 = .ok (.getfield 219, 3) := by decide +kernel
theorem dX11_digest_46 : decode cX11_digest 46 = .ok (.i2l, 1) := by decide +kernel
theorem dX11_digest_47 : decode cX11_digest 47 = .ok (.ladd, 1) := by decide +kernel
theorem dX11_digest_48 : decode cX11_digest 48 = .ok (.lstore_n 1, 1) := by decide +kernel
theorem dX11_digest_49 : decode cX11_digest 49 = .ok (.ldc2_w 227, 3) := by decide +kernel
theorem dX11_digest_52 : decode cX11_digest 52 = .ok (.lload_n 1, 1) := by decide +kernel
theorem dX11_digest_53 : decode cX11_digest 53 = .ok (.lmul, 1) := by decide +kernel
theorem dX11_digest_54 : decode cX11_digest 54 = .ok (.aload_n 0, 1) := by decide +kernel
theorem dX11_digest_55 : decode cX11_digest 55 = .ok (.getfield 12, 3) := by decide +kernel
theorem dX11_digest_58 : decode cX11_digest 58 = .ok (.getfield 108, 3) := by decide +kernel
theorem dX11_digest_61 : decode cX11_digest 61 = .ok (.getfield 125, 3) := by decide +kernel
theorem dX11_digest_64 : decode cX11_digest 64 = .ok (.i2l, 1) := by decide +kernel
theorem dX11_digest_65 : decode cX11_digest 65 = .ok (.ladd, 1) := by decide +kernel
theorem dX11_digest_66 : decode cX11_digest 66 = .ok (.lstore_n 1, 1) := by decide +kernel
theorem dX11_digest_67 : decode cX11_digest 67 = .ok (.ldc2_w 227, 3) := by decide +kernel
theorem dX11_digest_70 : decode cX11_digest 70 = .ok (.lload_n 1, 1) := by decide +kernel
theorem dX11_digest_71 : decode cX11_digest 71 = .ok (.lmul, 1) := by decide +kernel
theorem dX11_digest_72 : decode cX11_digest 72 = .ok (.aload_n 0, 1) := by decide +kernel
theorem dX11_digest_73 : decode cX11_digest 73 = .ok (.getfield 30, 3) := by decide +kernel
theorem dX11_digest_76 : decode cX11_digest 76 = .ok (.getfield 222, 3) := by decide +kernel
theorem dX11_digest_79 : decode cX11_digest 79 = .ok (.i2l, 1) := by decide +kernel
theorem dX11_digest_80 : decode cX11_digest 80 = .ok (.ladd, 1) := by decide +kernel
theorem dX11_digest_81 : decode cX11_digest 81 = .ok (.lstore_n 1, 1) := by decide +kernel
theorem dX11_digest_82 : decode cX11_digest 82 = .ok (.aload_n 0, 1) := by decide +kernel
theorem dX11_digest_83 : decode cX11_digest 83 = .ok (.getfield 12, 3) := by decide +kernel
theorem dX11_digest_86 : decode cX11_digest 86 = .ok (.lload_n 1, 1) := by decide +kernel
theorem dX11_digest_87 : decode cX11_digest 87 = .ok (.invokevirtual 229, 3) := by decide +kernel
theorem dX11_digest_90 : decode cX11_digest 90 = .ok (.lreturn, 1) := by decide +kernel
theorem dX11_counted_0 : decode cX11_counted 0 = .ok (.iload_n 1, 1) := by decide +kernel
theorem dX11_counted_1 : decode cX11_counted 1 = .ok (.bipush (-2), 2) := by decide +kernel
theorem dX11_counted_3 : decode cX11_counted 3 = .ok (.if_icmp .ne 16, 3) := by decide +kernel
theorem dX11_counted_6 : decode cX11_counted 6 = .ok (.aload_n 0, 1) := by decide +kernel
theorem dX11_counted_7 : decode cX11_counted 7 = .ok (.dup, 1) := by decide +kernel
theorem dX11_counted_8 : decode cX11_counted 8 = .ok (.getfield 210, 3) := by decide +kernel
theorem dX11_counted_11 : decode cX11_counted 11 = .ok (.iconst 1, 1) := by decide +kernel
theorem dX11_counted_12 : decode cX11_counted 12 = .ok (.iadd, 1) := by decide +kernel
theorem dX11_counted_13 : decode cX11_counted 13 = .ok (.putfield 210, 3) := by decide +kernel
theorem dX11_counted_16 : decode cX11_counted 16 = .ok (.goto 38, 3) := by decide +kernel
theorem dX11_counted_19 : decode cX11_counted 19 = .ok (.iload_n 1, 1) := by decide +kernel
theorem dX11_counted_20 : decode cX11_counted 20 = .ok (.bipush (-3), 2) := by decide +kernel
theorem dX11_counted_22 : decode cX11_counted 22 = .ok (.if_icmp .ne 16, 3) := by decide +kernel
theorem dX11_counted_25 : decode cX11_counted 25 = .ok (.aload_n 0, 1) := by decide +kernel
theorem dX11_counted_26 : decode cX11_counted 26 = .ok (.dup, 1) := by decide +kernel
theorem dX11_counted_27 : decode cX11_counted 27 = .ok (.getfield 213, 3) := by decide +kernel
theorem dX11_counted_30 : decode cX11_counted 30 = .ok (.iconst 1, 1) := by decide +kernel
theorem dX11_counted_31 : decode cX11_counted 31 = .ok (.iadd, 1) := by decide +kernel
theorem dX11_counted_32 : decode cX11_counted 32 = .ok (.putfield 213, 3) := by decide +kernel
theorem dX11_counted_35 : decode cX11_counted 35 = .ok (.goto 19, 3) := by decide +kernel
theorem dX11_counted_38 : decode cX11_counted 38 = .ok (.iload_n 1, 1) := by decide +kernel
theorem dX11_counted_39 : decode cX11_counted 39 = .ok (.bipush (-4), 2) := by decide +kernel
theorem dX11_counted_41 : decode cX11_counted 41 = .ok (.if_icmp .ne 13, 3) := by decide +kernel
theorem dX11_counted_44 : decode cX11_counted 44 = .ok (.aload_n 0, 1) := by decide +kernel
theorem dX11_counted_45 : decode cX11_counted 45 = .ok (.dup, 1) := by decide +kernel
theorem dX11_counted_46 : decode cX11_counted 46 = .ok (.getfield 216, 3) := by decide +kernel
theorem dX11_counted_49 : decode cX11_counted 49 = .ok (.iconst 1, 1) := by decide +kernel
theorem dX11_counted_50 : decode cX11_counted 50 = .ok (.iadd, 1) := by decide +kernel
theorem dX11_counted_51 : decode cX11_counted 51 = .ok (.putfield 216, 3) := by decide +kernel
theorem dX11_counted_54 : decode cX11_counted 54 = .ok (.iload_n 1, 1) := by decide +kernel
theorem dX11_counted_55 : decode cX11_counted 55 = .ok (.ireturn, 1) := by decide +kernel
theorem dX11_stepsNow_0 : decode cX11_stepsNow 0 = .ok (.aload_n 0, 1) := by decide +kernel
theorem dX11_stepsNow_1 : decode cX11_stepsNow 1 = .ok (.getfield 16, 3) := by decide +kernel
theorem dX11_stepsNow_4 : decode cX11_stepsNow 4 = .ok (.aload_n 0, 1) := by decide +kernel
theorem dX11_stepsNow_5 : decode cX11_stepsNow 5 = .ok (.getfield 12, 3) := by decide +kernel
theorem dX11_stepsNow_8 : decode cX11_stepsNow 8 = .ok (.invokevirtual 97, 3) := by decide +kernel
theorem dX11_stepsNow_11 : decode cX11_stepsNow 11 = .ok (.aload_n 0, 1) := by decide +kernel
theorem dX11_stepsNow_12 : decode cX11_stepsNow 12 = .ok (.getfield 44, 3) := by decide +kernel
theorem dX11_stepsNow_15 : decode cX11_stepsNow 15 = .ok (.aload_n 0, 1) := by decide +kernel
theorem dX11_stepsNow_16 : decode cX11_stepsNow 16 = .ok (.getfield 16, 3) := by decide +kernel
theorem dX11_stepsNow_19 : decode cX11_stepsNow 19 = .ok (.iload_n 1, 1) := by decide +kernel
theorem dX11_stepsNow_20 : decode cX11_stepsNow 20 = .ok (.iload_n 2, 1) := by decide +kernel
theorem dX11_stepsNow_21 : decode cX11_stepsNow 21 = .ok (.iconst (-1), 1) := by decide +kernel
theorem dX11_stepsNow_22 : decode cX11_stepsNow 22 = .ok (.invokevirtual 178, 3) := by decide +kernel
theorem dX11_stepsNow_25 : decode cX11_stepsNow 25 = .ok (.ireturn, 1) := by decide +kernel
theorem dX11_lyingsNow_0 : decode cX11_lyingsNow 0 = .ok (.aload_n 0, 1) := by decide +kernel
theorem dX11_lyingsNow_1 : decode cX11_lyingsNow 1 = .ok (.getfield 16, 3) := by decide +kernel
theorem dX11_lyingsNow_4 : decode cX11_lyingsNow 4 = .ok (.aload_n 0, 1) := by decide +kernel
theorem dX11_lyingsNow_5 : decode cX11_lyingsNow 5 = .ok (.getfield 12, 3) := by decide +kernel
theorem dX11_lyingsNow_8 : decode cX11_lyingsNow 8 = .ok (.invokevirtual 97, 3) := by decide +kernel
end
section
theorem dX11_lyingsNow_11 : decode cX11_lyingsNow 11 = .ok (.aload_n 0, 1) := by decide +kernel
theorem dX11_lyingsNow_12 : decode cX11_lyingsNow 12 = .ok (.getfield 44, 3) := by decide +kernel
theorem dX11_lyingsNow_15 : decode cX11_lyingsNow 15 = .ok (.aload_n 0, 1) := by decide +kernel
theorem dX11_lyingsNow_16 : decode cX11_lyingsNow 16 = .ok (.getfield 16, 3) := by decide +kernel
theorem dX11_lyingsNow_19 : decode cX11_lyingsNow 19 = .ok (.iconst 0, 1) := by decide +kernel
theorem dX11_lyingsNow_20 : decode cX11_lyingsNow 20 = .ok (.iconst (-1), 1) := by decide +kernel
theorem dX11_lyingsNow_21 : decode cX11_lyingsNow 21 = .ok (.iconst (-1), 1) := by decide +kernel
theorem dX11_lyingsNow_22 : decode cX11_lyingsNow 22 = .ok (.invokevirtual 178, 3) := by decide +kernel
theorem dX11_lyingsNow_25 : decode cX11_lyingsNow 25 = .ok (.pop, 1) := by decide +kernel
theorem dX11_lyingsNow_26 : decode cX11_lyingsNow 26 = .ok (.aload_n 0, 1) := by decide +kernel
theorem dX11_lyingsNow_27 : decode cX11_lyingsNow 27 = .ok (.getfield 44, 3) := by decide +kernel
theorem dX11_lyingsNow_30 : decode cX11_lyingsNow 30 = .ok (.getfield 182, 3) := by decide +kernel
theorem dX11_lyingsNow_33 : decode cX11_lyingsNow 33 = .ok (.ireturn, 1) := by decide +kernel
theorem dX11_isRoom_0 : decode cX11_isRoom 0 = .ok (.iload_n 0, 1) := by decide +kernel
theorem dX11_isRoom_1 : decode cX11_isRoom 1 = .ok (.ifCond .lt 12, 3) := by decide +kernel
theorem dX11_isRoom_4 : decode cX11_isRoom 4 = .ok (.iload_n 0, 1) := by decide +kernel
theorem dX11_isRoom_5 : decode cX11_isRoom 5 = .ok (.iconst 5, 1) := by decide +kernel
theorem dX11_isRoom_6 : decode cX11_isRoom 6 = .ok (.if_icmp .ge 7, 3) := by decide +kernel
theorem dX11_isRoom_9 : decode cX11_isRoom 9 = .ok (.iconst 1, 1) := by decide +kernel
theorem dX11_isRoom_10 : decode cX11_isRoom 10 = .ok (.goto 4, 3) := by decide +kernel
theorem dX11_isRoom_13 : decode cX11_isRoom 13 = .ok (.iconst 0, 1) := by decide +kernel
theorem dX11_isRoom_14 : decode cX11_isRoom 14 = .ok (.ireturn, 1) := by decide +kernel
theorem dX11_isStone_0 : decode cX11_isStone 0 = .ok (.iload_n 0, 1) := by decide +kernel
theorem dX11_isStone_1 : decode cX11_isStone 1 = .ok (.iconst 1, 1) := by decide +kernel
theorem dX11_isStone_2 : decode cX11_isStone 2 = .ok (.if_icmp .lt 13, 3) := by decide +kernel
theorem dX11_isStone_5 : decode cX11_isStone 5 = .ok (.iload_n 0, 1) := by decide +kernel
theorem dX11_isStone_6 : decode cX11_isStone 6 = .ok (.bipush 9, 2) := by decide +kernel
theorem dX11_isStone_8 : decode cX11_isStone 8 = .ok (.if_icmp .gt 7, 3) := by decide +kernel
theorem dX11_isStone_11 : decode cX11_isStone 11 = .ok (.iconst 1, 1) := by decide +kernel
theorem dX11_isStone_12 : decode cX11_isStone 12 = .ok (.goto 4, 3) := by decide +kernel
theorem dX11_isStone_15 : decode cX11_isStone 15 = .ok (.iconst 0, 1) := by decide +kernel
theorem dX11_isStone_16 : decode cX11_isStone 16 = .ok (.ireturn, 1) := by decide +kernel
theorem dX11_isImage_0 : decode cX11_isImage 0 = .ok (.iload_n 0, 1) := by decide +kernel
theorem dX11_isImage_1 : decode cX11_isImage 1 = .ok (.ifCond .lt 12, 3) := by decide +kernel
theorem dX11_isImage_4 : decode cX11_isImage 4 = .ok (.iload_n 0, 1) := by decide +kernel
theorem dX11_isImage_5 : decode cX11_isImage 5 = .ok (.iconst 2, 1) := by decide +kernel
theorem dX11_isImage_6 : decode cX11_isImage 6 = .ok (.if_icmp .ge 7, 3) := by decide +kernel
theorem dX11_isImage_9 : decode cX11_isImage 9 = .ok (.iconst 1, 1) := by decide +kernel
theorem dX11_isImage_10 : decode cX11_isImage 10 = .ok (.goto 4, 3) := by decide +kernel
theorem dX11_isImage_13 : decode cX11_isImage 13 = .ok (.iconst 0, 1) := by decide +kernel
theorem dX11_isImage_14 : decode cX11_isImage 14 = .ok (.ireturn, 1) := by decide +kernel
theorem dX11_isAmong_0 : decode cX11_isAmong 0 = .ok (.iload_n 0, 1) := by decide +kernel
theorem dX11_isAmong_1 : decode cX11_isAmong 1 = .ok (.iload_n 1, 1) := by decide +kernel
theorem dX11_isAmong_2 : decode cX11_isAmong 2 = .ok (.ishr, 1) := by decide +kernel
theorem dX11_isAmong_3 : decode cX11_isAmong 3 = .ok (.iconst 1, 1) := by decide +kernel
theorem dX11_isAmong_4 : decode cX11_isAmong 4 = .ok (.iand, 1) := by decide +kernel
theorem dX11_isAmong_5 : decode cX11_isAmong 5 = .ok (.iconst 1, 1) := by decide +kernel
theorem dX11_isAmong_6 : decode cX11_isAmong 6 = .ok (.if_icmp .ne 7, 3) := by decide +kernel
theorem dX11_isAmong_9 : decode cX11_isAmong 9 = .ok (.iconst 1, 1) := by decide +kernel
theorem dX11_isAmong_10 : decode cX11_isAmong 10 = .ok (.goto 4, 3) := by decide +kernel
theorem dX11_isAmong_13 : decode cX11_isAmong 13 = .ok (.iconst 0, 1) := by decide +kernel
theorem dX11_isAmong_14 : decode cX11_isAmong 14 = .ok (.ireturn, 1) := by decide +kernel
theorem dX11_downInAll_0 : decode cX11_downInAll 0 = .ok (.iload_n 1, 1) := by decide +kernel
theorem dX11_downInAll_1 : decode cX11_downInAll 1 = .ok (.istore_n 2, 1) := by decide +kernel
theorem dX11_downInAll_2 : decode cX11_downInAll 2 = .ok (.iconst 0, 1) := by decide +kernel
theorem dX11_downInAll_3 : decode cX11_downInAll 3 = .ok (.istore_n 3, 1) := by decide +kernel
theorem dX11_downInAll_4 : decode cX11_downInAll 4 = .ok (.iload_n 3, 1) := by decide +kernel
theorem dX11_downInAll_5 : decode cX11_downInAll 5 = .ok (.iload_n 1, 1) := by decide +kernel
theorem dX11_downInAll_6 : decode cX11_downInAll 6 = .ok (.if_icmp .gt 21, 3) := by decide +kernel
theorem dX11_downInAll_9 : decode cX11_downInAll 9 = .ok (.iload_n 0, 1) := by decide +kernel
theorem dX11_downInAll_10 : decode cX11_downInAll 10 = .ok (.iload_n 3, 1) := by decide +kernel
theorem dX11_downInAll_11 : decode cX11_downInAll 11 = .ok (.invokestatic 169, 3) := by decide +kernel
theorem dX11_downInAll_14 : decode cX11_downInAll 14 = .ok (.ifCond .eq 7, 3) := by decide +kernel
theorem dX11_downInAll_17 : decode cX11_downInAll 17 = .ok (.iload_n 2, 1) := by decide +kernel
theorem dX11_downInAll_18 : decode cX11_downInAll 18 = .ok (.iload_n 3, 1) := by decide +kernel
theorem dX11_downInAll_19 : decode cX11_downInAll 19 = .ok (.iand, 1) := by decide +kernel
theorem dX11_downInAll_20 : decode cX11_downInAll 20 = .ok (.istore_n 2, 1) := by decide +kernel
theorem dX11_downInAll_21 : decode cX11_downInAll 21 = .ok (.iinc 3 1, 3) := by decide +kernel
theorem dX11_downInAll_24 : decode cX11_downInAll 24 = .ok (.goto (-20), 3) := by decide +kernel
theorem dX11_downInAll_27 : decode cX11_downInAll 27 = .ok (.iload_n 2, 1) := by decide +kernel
theorem dX11_downInAll_28 : decode cX11_downInAll 28 = .ok (.ireturn, 1) := by decide +kernel
theorem dX11_downInSome_0 : decode cX11_downInSome 0 = .ok (.iconst 0, 1) := by decide +kernel
theorem dX11_downInSome_1 : decode cX11_downInSome 1 = .ok (.istore_n 1, 1) := by decide +kernel
theorem dX11_downInSome_2 : decode cX11_downInSome 2 = .ok (.iconst 0, 1) := by decide +kernel
theorem dX11_downInSome_3 : decode cX11_downInSome 3 = .ok (.istore_n 2, 1) := by decide +kernel
theorem dX11_downInSome_4 : decode cX11_downInSome 4 = .ok (.iload_n 2, 1) := by decide +kernel
theorem dX11_downInSome_5 : decode cX11_downInSome 5 = .ok (.bipush 32, 2) := by decide +kernel
theorem dX11_downInSome_7 : decode cX11_downInSome 7 = .ok (.if_icmp .ge 21, 3) := by decide +kernel
theorem dX11_downInSome_10 : decode cX11_downInSome 10 = .ok (.iload_n 0, 1) := by decide +kernel
theorem dX11_downInSome_11 : decode cX11_downInSome 11 = .ok (.iload_n 2, 1) := by decide +kernel
theorem dX11_downInSome_12 : decode cX11_downInSome 12 = .ok (.invokestatic 169, 3) := by decide +kernel
theorem dX11_downInSome_15 : decode cX11_downInSome 15 = .ok (.ifCond .eq 7, 3) := by decide +kernel
theorem dX11_downInSome_18 : decode cX11_downInSome 18 = .ok (.iload_n 1, 1) := by decide +kernel
theorem dX11_downInSome_19 : decode cX11_downInSome 19 = .ok (.iload_n 2, 1) := by decide +kernel
theorem dX11_downInSome_20 : decode cX11_downInSome 20 = .ok (.ior, 1) := by decide +kernel
theorem dX11_downInSome_21 : decode cX11_downInSome 21 = .ok (.istore_n 1, 1) := by decide +kernel
theorem dX11_downInSome_22 : decode cX11_downInSome 22 = .ok (.iinc 2 1, 3) := by decide +kernel
theorem dX11_downInSome_25 : decode cX11_downInSome 25 = .ok (.goto (-21), 3) := by decide +kernel
theorem dX11_downInSome_28 : decode cX11_downInSome 28 = .ok (.iload_n 1, 1) := by decide +kernel
theorem dX11_downInSome_29 : decode cX11_downInSome 29 = .ok (.ireturn, 1) := by decide +kernel
theorem dX11_rowsOf_0 : decode cX11_rowsOf 0 = .ok (.aload_n 0, 1) := by decide +kernel
theorem dX11_rowsOf_1 : decode cX11_rowsOf 1 = .ok (.getfield 77, 3) := by decide +kernel
theorem dX11_rowsOf_4 : decode cX11_rowsOf 4 = .ok (.iconst 0, 1) := by decide +kernel
theorem dX11_rowsOf_5 : decode cX11_rowsOf 5 = .ok (.iaload, 1) := by decide +kernel
theorem dX11_rowsOf_6 : decode cX11_rowsOf 6 = .ok (.istore 5, 2) := by decide +kernel
theorem dX11_rowsOf_8 : decode cX11_rowsOf 8 = .ok (.iload 5, 2) := by decide +kernel
theorem dX11_rowsOf_10 : decode cX11_rowsOf 10 = .ok (.iconst 5, 1) := by decide +kernel
theorem dX11_rowsOf_11 : decode cX11_rowsOf 11 = .ok (.if_icmp .ge 8, 3) := by decide +kernel
theorem dX11_rowsOf_14 : decode cX11_rowsOf 14 = .ok (.iload 4, 2) := by decide +kernel
theorem dX11_rowsOf_16 : decode cX11_rowsOf 16 = .ok (.goto 12, 3) := by decide +kernel
theorem dX11_rowsOf_19 : decode cX11_rowsOf 19 = .ok (.iload 4, 2) := by decide +kernel
theorem dX11_rowsOf_21 : decode cX11_rowsOf 21 = .ok (.iconst 1, 1) := by decide +kernel
theorem dX11_rowsOf_22 : decode cX11_rowsOf 22 = .ok (.iload 5, 2) := by decide +kernel
theorem dX11_rowsOf_24 : decode cX11_rowsOf 24 = .ok (.iconst 5, 1) := by decide +kernel
theorem dX11_rowsOf_25 : decode cX11_rowsOf 25 = .ok (.isub, 1) := by decide +kernel
theorem dX11_rowsOf_26 : decode cX11_rowsOf 26 = .ok (.ishl, 1) := by decide +kernel
theorem dX11_rowsOf_27 : decode cX11_rowsOf 27 = .ok (.ior, 1) := by decide +kernel
theorem dX11_rowsOf_28 : decode cX11_rowsOf 28 = .ok (.istore 6, 2) := by decide +kernel
theorem dX11_rowsOf_30 : decode cX11_rowsOf 30 = .ok (.iload 6, 2) := by decide +kernel
theorem dX11_rowsOf_32 : decode cX11_rowsOf 32 = .ok (.iload_n 3, 1) := by decide +kernel
theorem dX11_rowsOf_33 : decode cX11_rowsOf 33 = .ok (.iconst (-1), 1) := by decide +kernel
theorem dX11_rowsOf_34 : decode cX11_rowsOf 34 = .ok (.ixor, 1) := by decide +kernel
theorem dX11_rowsOf_35 : decode cX11_rowsOf 35 = .ok (.iand, 1) := by decide +kernel
theorem dX11_rowsOf_36 : decode cX11_rowsOf 36 = .ok (.ifCond .eq 5, 3) := by decide +kernel
theorem dX11_rowsOf_39 : decode cX11_rowsOf 39 = .ok (.iconst 0, 1) := by decide +kernel
theorem dX11_rowsOf_40 : decode cX11_rowsOf 40 = .ok (.ireturn, 1) := by decide +kernel
theorem dX11_rowsOf_41 : decode cX11_rowsOf 41 = .ok (.iload_n 1, 1) := by decide +kernel
theorem dX11_rowsOf_42 : decode cX11_rowsOf 42 = .ok (.ifCond .gt 21, 3) := by decide +kernel
theorem dX11_rowsOf_45 : decode cX11_rowsOf 45 = .ok (.iload 5, 2) := by decide +kernel
theorem dX11_rowsOf_47 : decode cX11_rowsOf 47 = .ok (.iload_n 2, 1) := by decide +kernel
theorem dX11_rowsOf_48 : decode cX11_rowsOf 48 = .ok (.if_icmp .ne 13, 3) := by decide +kernel
theorem dX11_rowsOf_51 : decode cX11_rowsOf 51 = .ok (.iload 6, 2) := by decide +kernel
theorem dX11_rowsOf_53 : decode cX11_rowsOf 53 = .ok (.iload_n 3, 1) := by decide +kernel
theorem dX11_rowsOf_54 : decode cX11_rowsOf 54 = .ok (.if_icmp .ne 7, 3) := by decide +kernel
theorem dX11_rowsOf_57 : decode cX11_rowsOf 57 = .ok (.iconst 1, 1) := by decide +kernel
theorem dX11_rowsOf_58 : decode cX11_rowsOf 58 = .ok (.goto 4, 3) := by decide +kernel
theorem dX11_rowsOf_61 : decode cX11_rowsOf 61 = .ok (.iconst 0, 1) := by decide +kernel
theorem dX11_rowsOf_62 : decode cX11_rowsOf 62 = .ok (.ireturn, 1) := by decide +kernel
theorem dX11_rowsOf_63 : decode cX11_rowsOf 63 = .ok (.aload_n 0, 1) := by decide +kernel
theorem dX11_rowsOf_64 : decode cX11_rowsOf 64 = .ok (.invokevirtual 112, 3) := by decide +kernel
theorem dX11_rowsOf_67 : decode cX11_rowsOf 67 = .ok (.istore 7, 2) := by decide +kernel
theorem dX11_rowsOf_69 : decode cX11_rowsOf 69 = .ok (.iconst 0, 1) := by decide +kernel
theorem dX11_rowsOf_70 : decode cX11_rowsOf 70 = .ok (.istore 8, 2) := by decide +kernel
theorem dX11_rowsOf_72 : decode cX11_rowsOf 72 = .ok (.iconst 0, 1) := by decide +kernel
theorem dX11_rowsOf_73 : decode cX11_rowsOf 73 = .ok (.istore 9, 2) := by decide +kernel
theorem dX11_rowsOf_75 : decode cX11_rowsOf 75 = .ok (.iload 9, 2) := by decide +kernel
theorem dX11_rowsOf_77 : decode cX11_rowsOf 77 = .ok (.iconst 5, 1) := by decide +kernel
theorem dX11_rowsOf_78 : decode cX11_rowsOf 78 = .ok (.aload_n 0, 1) := by decide +kernel
theorem dX11_rowsOf_79 : decode cX11_rowsOf 79 = .ok (.getfield 191, 3) := by decide +kernel
theorem dX11_rowsOf_82 : decode cX11_rowsOf 82 = .ok (.iadd, 1) := by decide +kernel
theorem dX11_rowsOf_83 : decode cX11_rowsOf 83 = .ok (.if_icmp .ge 48, 3) := by decide +kernel
theorem dX11_rowsOf_86 : decode cX11_rowsOf 86 = .ok (.aload_n 0, 1) := by decide +kernel
theorem dX11_rowsOf_87 : decode cX11_rowsOf 87 = .ok (.iconst 0, 1) := by decide +kernel
theorem dX11_rowsOf_88 : decode cX11_rowsOf 88 = .ok (.iload 9, 2) := by decide +kernel
theorem dX11_rowsOf_90 : decode cX11_rowsOf 90 = .ok (.invokevirtual 104, 3) := by decide +kernel
theorem dX11_rowsOf_93 : decode cX11_rowsOf 93 = .ok (.ifCond .eq 32, 3) := by decide +kernel
theorem dX11_rowsOf_96 : decode cX11_rowsOf 96 = .ok (.aload_n 0, 1) := by decide +kernel
theorem dX11_rowsOf_97 : decode cX11_rowsOf 97 = .ok (.iconst 0, 1) := by decide +kernel
theorem dX11_rowsOf_98 : decode cX11_rowsOf 98 = .ok (.iload 9, 2) := by decide +kernel
theorem dX11_rowsOf_100 : decode cX11_rowsOf 100 = .ok (.invokevirtual 121, 3) := by decide +kernel
theorem dX11_rowsOf_103 : decode cX11_rowsOf 103 = .ok (.iload 8, 2) := by decide +kernel
theorem dX11_rowsOf_105 : decode cX11_rowsOf 105 = .ok (.aload_n 0, 1) := by decide +kernel
theorem dX11_rowsOf_106 : decode cX11_rowsOf 106 = .ok (.iload_n 1, 1) := by decide +kernel
theorem dX11_rowsOf_107 : decode cX11_rowsOf 107 = .ok (.iconst 1, 1) := by decide +kernel
theorem dX11_rowsOf_108 : decode cX11_rowsOf 108 = .ok (.isub, 1) := by decide +kernel
theorem dX11_rowsOf_109 : decode cX11_rowsOf 109 = .ok (.iload_n 2, 1) := by decide +kernel
theorem dX11_rowsOf_110 : decode cX11_rowsOf 110 = .ok (.iload_n 3, 1) := by decide +kernel
theorem dX11_rowsOf_111 : decode cX11_rowsOf 111 = .ok (.iload 6, 2) := by decide +kernel
theorem dX11_rowsOf_113 : decode cX11_rowsOf 113 = .ok (.invokestatic 203, 3) := by decide +kernel
theorem dX11_rowsOf_116 : decode cX11_rowsOf 116 = .ok (.iadd, 1) := by decide +kernel
theorem dX11_rowsOf_117 : decode cX11_rowsOf 117 = .ok (.istore 8, 2) := by decide +kernel
theorem dX11_rowsOf_119 : decode cX11_rowsOf 119 = .ok (.aload_n 0, 1) := by decide +kernel
theorem dX11_rowsOf_120 : decode cX11_rowsOf 120 = .ok (.iload 7, 2) := by decide +kernel
theorem dX11_rowsOf_122 : decode cX11_rowsOf 122 = .ok (.invokevirtual 131, 3) := by decide +kernel
theorem dX11_rowsOf_125 : decode cX11_rowsOf 125 = .ok (.iinc 9 1, 3) := by decide +kernel
theorem dX11_rowsOf_128 : decode cX11_rowsOf 128 = .ok (.goto (-53), 3) := by decide +kernel
theorem dX11_rowsOf_131 : decode cX11_rowsOf 131 = .ok (.iload 8, 2) := by decide +kernel
theorem dX11_rowsOf_133 : decode cX11_rowsOf 133 = .ok (.ireturn, 1) := by decide +kernel
theorem dX12_init_0 : decode cX12_init 0 = .ok (.aload_n 0, 1) := by decide +kernel
theorem dX12_init_1 : decode cX12_init 1 = .ok (.invokespecial 1, 3) := by decide +kernel
theorem dX12_init_4 : decode cX12_init 4 = .ok (.aload_n 0, 1) := by decide +kernel
theorem dX12_init_5 : decode cX12_init 5 = .ok (.sipush 440, 3) := by decide +kernel
theorem dX12_init_8 : decode cX12_init 8 = .ok (.newarray .int, 2) := by decide +kernel
theorem dX12_init_10 : decode cX12_init 10 = .ok (.putfield 7, 3) := by decide +kernel
theorem dX12_init_13 : decode cX12_init 13 = .ok (.aload_n 0, 1) := by decide +kernel
theorem dX12_init_14 : decode cX12_init 14 = .ok (.iconst 2, 1) := by decide +kernel
theorem dX12_init_15 : decode cX12_init 15 = .ok (.newarray .boolean, 2) := by decide +kernel
theorem dX12_init_17 : decode cX12_init 17 = .ok (.putfield 13, 3) := by decide +kernel
theorem dX12_init_20 : decode cX12_init 20 = .ok (.aload_n 0, 1) := by decide +kernel
theorem dX12_init_21 : decode cX12_init 21 = .ok (.sipush 200, 3) := by decide +kernel
theorem dX12_init_24 : decode cX12_init 24 = .ok (.newarray .int, 2) := by decide +kernel
theorem dX12_init_26 : decode cX12_init 26 = .ok (.putfield 17, 3) := by decide +kernel
theorem dX12_init_29 : decode cX12_init 29 = .ok (.aload_n 0, 1) := by decide +kernel
theorem dX12_init_30 : decode cX12_init 30 = .ok (.iconst 3, 1) := by decide +kernel
theorem dX12_init_31 : decode cX12_init 31 = .ok (.newarray .int, 2) := by decide +kernel
theorem dX12_init_33 : decode cX12_init 33 = .ok (.putfield 20, 3) := by decide +kernel
theorem dX12_init_36 : decode cX12_init 36 = .ok (.aload_n 0, 1) := by decide +kernel
theorem dX12_init_37 : decode cX12_init 37 = .ok (.iconst 5, 1) := by decide +kernel
theorem dX12_init_38 : decode cX12_init 38 = .ok (.newarray .int, 2) := by decide +kernel
theorem dX12_init_40 : decode cX12_init 40 = .ok (.putfield 23, 3) := by decide +kernel
theorem dX12_init_43 : decode cX12_init 43 = .ok (.aload_n 0, 1) := by decide +kernel
theorem dX12_init_44 : decode cX12_init 44 = .ok (.iconst 3, 1) := by decide +kernel
theorem dX12_init_45 : decode cX12_init 45 = .ok (.newarray .int, 2) := by decide +kernel
theorem dX12_init_47 : decode cX12_init 47 = .ok (.putfield 26, 3) := by decide +kernel
theorem dX12_init_50 : decode cX12_init 50 = .ok (.aload_n 0, 1) := by decide +kernel
theorem dX12_init_51 : decode cX12_init 51 = .ok (.iconst 3, 1) := by decide +kernel
theorem dX12_init_52 : decode cX12_init 52 = .ok (.newarray .int, 2) := by decide +kernel
theorem dX12_init_54 : decode cX12_init 54 = .ok (.putfield 29, 3) := by decide +kernel
theorem dX12_init_57 : decode cX12_init 57 = .ok (.aload_n 0, 1) := by decide +kernel
theorem dX12_init_58 : decode cX12_init 58 = .ok (.iconst 3, 1) := by decide +kernel
theorem dX12_init_59 : decode cX12_init 59 = .ok (.newarray .int, 2) := by decide +kernel
theorem dX12_init_61 : decode cX12_init 61 = .ok (.putfield 32, 3) := by decide +kernel
theorem dX12_init_64 : decode cX12_init 64 = .ok (.aload_n 0, 1) := by decide +kernel
theorem dX12_init_65 : decode cX12_init 65 = .ok (.iconst 3, 1) := by decide +kernel
theorem dX12_init_66 : decode cX12_init 66 = .ok (.newarray .int, 2) := by decide +kernel
theorem dX12_init_68 : decode cX12_init 68 = .ok (.putfield 35, 3) := by decide +kernel
theorem dX12_init_71 : decode cX12_init 71 = .ok (.aload_n 0, 1) := by decide +kernel
theorem dX12_init_72 : decode cX12_init 72 = .ok (.bipush 40, 2) := by decide +kernel
theorem dX12_init_74 : decode cX12_init 74 = .ok (.newarray .int, 2) := by decide +kernel
theorem dX12_init_76 : decode cX12_init 76 = .ok (.putfield 38, 3) := by decide +kernel
theorem dX12_init_79 : decode cX12_init 79 = .ok (.aload_n 0, 1) := by decide +kernel
theorem dX12_init_80 : decode cX12_init 80 = .ok (.bipush 120, 2) := by decide +kernel
theorem dX12_init_82 : decode cX12_init 82 = .ok (.newarray .int, 2) := by decide +kernel
theorem dX12_init_84 : decode cX12_init 84 = .ok (.putfield 41, 3) := by decide +kernel
theorem dX12_init_87 : decode cX12_init 87 = .ok (.aload_n 0, 1) := by decide +kernel
theorem dX12_init_88 : decode cX12_init 88 = .ok (.sipush 32000, 3) := by decide +kernel
theorem dX12_init_91 : decode cX12_init 91 = .ok (.newarray .int, 2) := by decide +kernel
theorem dX12_init_93 : decode cX12_init 93 = .ok (.putfield 44, 3) := by decide +kernel
theorem dX12_init_96 : decode cX12_init 96 = .ok (.aload_n 0, 1) := by decide +kernel
theorem dX12_init_97 : decode cX12_init 97 = .ok (.sipush 32000, 3) := by decide +kernel
theorem dX12_init_100 : decode cX12_init 100 = .ok (.newarray .int, 2) := by decide +kernel
theorem dX12_init_102 : decode cX12_init 102 = .ok (.putfield 47, 3) := by decide +kernel
theorem dX12_init_105 : decode cX12_init 105 = .ok (.aload_n 0, 1) := by decide +kernel
theorem dX12_init_106 : decode cX12_init 106 = .ok (.sipush 10240, 3) := by decide +kernel
theorem dX12_init_109 : decode cX12_init 109 = .ok (.newarray .int, 2) := by decide +kernel
theorem dX12_init_111 : decode cX12_init 111 = .ok (.putfield 50, 3) := by decide +kernel
theorem dX12_init_114 : decode cX12_init 114 = .ok (.aload_n 0, 1) := by decide +kernel
theorem dX12_init_115 : decode cX12_init 115 = .ok (.sipush 10240, 3) := by decide +kernel
theorem dX12_init_118 : decode cX12_init 118 = .ok (.newarray .int, 2) := by decide +kernel
theorem dX12_init_120 : decode cX12_init 120 = .ok (.putfield 53, 3) := by decide +kernel
theorem dX12_init_123 : decode cX12_init 123 = .ok (.return_, 1) := by decide +kernel
theorem dX12_in_0 : decode cX12_in 0 = .ok (.lload_n 0, 1) := by decide +kernel
theorem dX12_in_1 : decode cX12_in 1 = .ok (.lload_n 2, 1) := by decide +kernel
theorem dX12_in_2 : decode cX12_in 2 = .ok (.lcmp, 1) := by decide +kernel
theorem dX12_in_3 : decode cX12_in 3 = .ok (.ifCond .lt 14, 3) := by decide +kernel
theorem dX12_in_6 : decode cX12_in 6 = .ok (.lload_n 0, 1) := by decide +kernel
theorem dX12_in_7 : decode cX12_in 7 = .ok (.lload 4, 2) := by decide +kernel
theorem dX12_in_9 : decode cX12_in 9 = .ok (.lcmp, 1) := by decide +kernel
theorem dX12_in_10 : decode cX12_in 10 = .ok (.ifCond .gt 7, 3) := by decide +kernel
theorem dX12_in_13 : decode cX12_in 13 = .ok (.iconst 1, 1) := by decide +kernel
theorem dX12_in_14 : decode cX12_in 14 = .ok (.goto 4, 3) := by decide +kernel
theorem dX12_in_17 : decode cX12_in 17 = .ok (.iconst 0, 1) := by decide +kernel
theorem dX12_in_18 : decode cX12_in 18 = .ok (.ireturn, 1) := by decide +kernel
theorem dX12_has_0 : decode cX12_has 0 = .ok (.iload_n 0, 1) := by decide +kernel
theorem dX12_has_1 : decode cX12_has 1 = .ok (.iload_n 1, 1) := by decide +kernel
theorem dX12_has_2 : decode cX12_has 2 = .ok (.ishr, 1) := by decide +kernel
theorem dX12_has_3 : decode cX12_has 3 = .ok (.iconst 1, 1) := by decide +kernel
theorem dX12_has_4 : decode cX12_has 4 = .ok (.iand, 1) := by decide +kernel
theorem dX12_has_5 : decode cX12_has 5 = .ok (.iconst 1, 1) := by decide +kernel
theorem dX12_has_6 : decode cX12_has 6 = .ok (.if_icmp .ne 7, 3) := by decide +kernel
theorem dX12_has_9 : decode cX12_has 9 = .ok (.iconst 1, 1) := by decide +kernel
theorem dX12_has_10 : decode cX12_has 10 = .ok (.goto 4, 3) := by decide +kernel
theorem dX12_has_13 : decode cX12_has 13 = .ok (.iconst 0, 1) := by decide +kernel
theorem dX12_has_14 : decode cX12_has 14 = .ok (.ireturn, 1) := by decide +kernel
theorem dX12_ones_0 : decode cX12_ones 0 = .ok (.iconst 0, 1) := by decide +kernel
theorem dX12_ones_1 : decode cX12_ones 1 = .ok (.istore_n 1, 1) := by decide +kernel
theorem dX12_ones_2 : decode cX12_ones 2 = .ok (.iconst 0, 1) := by decide +kernel
theorem dX12_ones_3 : decode cX12_ones 3 = .ok (.istore_n 2, 1) := by decide +kernel
theorem dX12_ones_4 : decode cX12_ones 4 = .ok (.iload_n 2, 1) := by decide +kernel
theorem dX12_ones_5 : decode cX12_ones 5 = .ok (.iconst 5, 1) := by decide +kernel
theorem dX12_ones_6 : decode cX12_ones 6 = .ok (.if_icmp .ge 17, 3) := by decide +kernel
theorem dX12_ones_9 : decode cX12_ones 9 = .ok (.iload_n 1, 1) := by decide +kernel
theorem dX12_ones_10 : decode cX12_ones 10 = .ok (.iload_n 0, 1) := by decide +kernel
theorem dX12_ones_11 : decode cX12_ones 11 = .ok (.iload_n 2, 1) := by decide +kernel
theorem dX12_ones_12 : decode cX12_ones 12 = .ok (.ishr, 1) := by decide +kernel
theorem dX12_ones_13 : decode cX12_ones 13 = .ok (.iconst 1, 1) := by decide +kernel
theorem dX12_ones_14 : decode cX12_ones 14 = .ok (.iand, 1) := by decide +kernel
theorem dX12_ones_15 : decode cX12_ones 15 = .ok (.iadd, 1) := by decide +kernel
theorem dX12_ones_16 : decode cX12_ones 16 = .ok (.istore_n 1, 1) := by decide +kernel
theorem dX12_ones_17 : decode cX12_ones 17 = .ok (.iinc 2 1, 3) := by decide +kernel
theorem dX12_ones_20 : decode cX12_ones 20 = .ok (.goto (-16), 3) := by decide +kernel
theorem dX12_ones_23 : decode cX12_ones 23 = .ok (.iload_n 1, 1) := by decide +kernel
theorem dX12_ones_24 : decode cX12_ones 24 = .ok (.ireturn, 1) := by decide +kernel
theorem dX12_met_0 : decode cX12_met 0 = .ok (.iload_n 1, 1) := by decide +kernel
theorem dX12_met_1 : decode cX12_met 1 = .ok (.bipush (-2), 2) := by decide +kernel
theorem dX12_met_3 : decode cX12_met 3 = .ok (.if_icmp .eq 15, 3) := by decide +kernel
theorem dX12_met_6 : decode cX12_met 6 = .ok (.iload_n 1, 1) := by decide +kernel
theorem dX12_met_7 : decode cX12_met 7 = .ok (.bipush (-3), 2) := by decide +kernel
theorem dX12_met_9 : decode cX12_met 9 = .ok (.if_icmp .eq 9, 3) := by decide +kernel
theorem dX12_met_12 : decode cX12_met 12 = .ok (.iload_n 1, 1) := by decide +kernel
theorem dX12_met_13 : decode cX12_met 13 = .ok (.bipush (-4), 2) := by decide +kernel
theorem dX12_met_15 : decode cX12_met 15 = .ok (.if_icmp .ne 16, 3) := by decide +kernel
theorem dX12_met_18 : decode cX12_met 18 = .ok (.aload_n 0, 1) := by decide +kernel
theorem dX12_met_19 : decode cX12_met 19 = .ok (.getfield 20, 3) := by decide +kernel
theorem dX12_met_22 : decode cX12_met 22 = .ok (.bipush (-2), 2) := by decide +kernel
theorem dX12_met_24 : decode cX12_met 24 = .ok (.iload_n 1, 1) := by decide +kernel
theorem dX12_met_25 : decode cX12_met 25 = .ok (.isub, 1) := by decide +kernel
theorem dX12_met_26 : decode cX12_met 26 = .ok (.dup2, 1) := by decide +kernel
theorem dX12_met_27 : decode cX12_met 27 = .ok (.iaload, 1) := by decide +kernel
theorem dX12_met_28 : decode cX12_met 28 = .ok (.iconst 1, 1) := by decide +kernel
theorem dX12_met_29 : decode cX12_met 29 = .ok (.iadd, 1) := by decide +kernel
theorem dX12_met_30 : decode cX12_met 30 = .ok (.iastore, 1) := by decide +kernel
theorem dX12_met_31 : decode cX12_met 31 = .ok (.iload_n 1, 1) := by decide +kernel
theorem dX12_met_32 : decode cX12_met 32 = .ok (.ireturn, 1) := by decide +kernel
theorem dX12_bad_0 : decode cX12_bad 0 = .ok (.aload_n 0, 1) := by decide +kernel
theorem dX12_bad_1 : decode cX12_bad 1 = .ok (.bipush (-2), 2) := by decide +kernel
theorem dX12_bad_3 : decode cX12_bad 3 = .ok (.invokevirtual 56, 3) := by decide +kernel
theorem dX12_bad_6 : decode cX12_bad 6 = .ok (.ireturn, 1) := by decide +kernel
theorem dX12_copy_0 : decode cX12_copy 0 = .ok (.iconst 0, 1) := by decide +kernel
theorem dX12_copy_1 : decode cX12_copy 1 = .ok (.istore_n 3, 1) := by decide +kernel
theorem dX12_copy_2 : decode cX12_copy 2 = .ok (.iload_n 3, 1) := by decide +kernel
theorem dX12_copy_3 : decode cX12_copy 3 = .ok (.bipush 110, 2) := by decide +kernel
theorem dX12_copy_5 : decode cX12_copy 5 = .ok (.if_icmp .ge 25, 3) := by decide +kernel
theorem dX12_copy_8 : decode cX12_copy 8 = .ok (.aload_n 0, 1) := by decide +kernel
theorem dX12_copy_9 : decode cX12_copy 9 = .ok (.getfield 7, 3) := by decide +kernel
theorem dX12_copy_12 : decode cX12_copy 12 = .ok (.iload_n 2, 1) := by decide +kernel
theorem dX12_copy_13 : decode cX12_copy 13 = .ok (.iload_n 3, 1) := by decide +kernel
theorem dX12_copy_14 : decode cX12_copy 14 = .ok (.iadd, 1) := by decide +kernel
theorem dX12_copy_15 : decode cX12_copy 15 = .ok (.aload_n 0, 1) := by decide +kernel
theorem dX12_copy_16 : decode cX12_copy 16 = .ok (.getfield 7, 3) := by decide +kernel
theorem dX12_copy_19 : decode cX12_copy 19 = .ok (.iload_n 1, 1) := by decide +kernel
theorem dX12_copy_20 : decode cX12_copy 20 = .ok (.iload_n 3, 1) := by decide +kernel
theorem dX12_copy_21 : decode cX12_copy 21 = .ok (.iadd, 1) := by decide +kernel
theorem dX12_copy_22 : decode cX12_copy 22 = .ok (.iaload, 1) := by decide +kernel
theorem dX12_copy_23 : decode cX12_copy 23 = .ok (.iastore, 1) := by decide +kernel
theorem dX12_copy_24 : decode cX12_copy 24 = .ok (.iinc 3 1, 3) := by decide +kernel
theorem dX12_copy_27 : decode cX12_copy 27 = .ok (.goto (-25), 3) := by decide +kernel
theorem dX12_copy_30 : decode cX12_copy 30 = .ok (.return_, 1) := by decide +kernel
theorem dX12_addBridge_0 : decode cX12_addBridge 0 = .ok (.iload_n 2, 1) := by decide +kernel
theorem dX12_addBridge_1 : decode cX12_addBridge 1 = .ok (.i2l, 1) := by decide +kernel
theorem dX12_addBridge_2 : decode cX12_addBridge 2 = .ok (.lconst 0, 1) := by decide +kernel
theorem dX12_addBridge_3 : decode cX12_addBridge 3 = .ok (.ldc2_w 60, 3) := by decide +kernel
theorem dX12_addBridge_6 : decode cX12_addBridge 6 = .ok (.invokestatic 62, 3) := by decide +kernel
theorem dX12_addBridge_9 : decode cX12_addBridge 9 = .ok (.ifCond .eq 33, 3) := by decide +kernel
theorem dX12_addBridge_12 : decode cX12_addBridge 12 = .ok (.iload_n 3, 1) := by decide +kernel
theorem dX12_addBridge_13 : decode cX12_addBridge 13 = .ok (.i2l, 1) := by decide +kernel
theorem dX12_addBridge_14 : decode cX12_addBridge 14 = .ok (.lconst 0, 1) := by decide +kernel
theorem dX12_addBridge_15 : decode cX12_addBridge 15 = .ok (.ldc2_w 60, 3) := by decide +kernel
theorem dX12_addBridge_18 : decode cX12_addBridge 18 = .ok (.invokestatic 62, 3) := by decide +kernel
theorem dX12_addBridge_21 : decode cX12_addBridge 21 = .ok (.ifCond .eq 21, 3) := by decide +kernel
theorem dX12_addBridge_24 : decode cX12_addBridge 24 = .ok (.iload_n 2, 1) := by decide +kernel
theorem dX12_addBridge_25 : decode cX12_addBridge 25 = .ok (.iload_n 3, 1) := by decide +kernel
theorem dX12_addBridge_26 : decode cX12_addBridge 26 = .ok (.if_icmp .eq 16, 3) := by decide +kernel
theorem dX12_addBridge_29 : decode cX12_addBridge 29 = .ok (.iload 4, 2) := by decide +kernel
theorem dX12_addBridge_31 : decode cX12_addBridge 31 = .ok (.i2l, 1) := by decide +kernel
theorem dX12_addBridge_32 : decode cX12_addBridge 32 = .ok (.lconst 0, 1) := by decide +kernel
theorem dX12_addBridge_33 : decode cX12_addBridge 33 = .ok (.ldc2_w 66, 3) := by decide +kernel
theorem dX12_addBridge_36 : decode cX12_addBridge 36 = .ok (.invokestatic 62, 3) := by decide +kernel
theorem dX12_addBridge_39 : decode cX12_addBridge 39 = .ok (.ifCond .ne 6, 3) := by decide +kernel
theorem dX12_addBridge_42 : decode cX12_addBridge 42 = .ok (.bipush (-2), 2) := by decide +kernel
theorem dX12_addBridge_44 : decode cX12_addBridge 44 = .ok (.ireturn, 1) := by decide +kernel
theorem dX12_addBridge_45 : decode cX12_addBridge 45 = .ok (.aload_n 0, 1) := by decide +kernel
theorem dX12_addBridge_46 : decode cX12_addBridge 46 = .ok (.getfield 7, 3) := by decide +kernel
theorem dX12_addBridge_49 : decode cX12_addBridge 49 = .ok (.iload_n 1, 1) := by decide +kernel
theorem dX12_addBridge_50 : decode cX12_addBridge 50 = .ok (.iconst 0, 1) := by decide +kernel
theorem dX12_addBridge_51 : decode cX12_addBridge 51 = .ok (.iadd, 1) := by decide +kernel
theorem dX12_addBridge_52 : decode cX12_addBridge 52 = .ok (.iaload, 1) := by decide +kernel
theorem dX12_addBridge_53 : decode cX12_addBridge 53 = .ok (.istore 6, 2) := by decide +kernel
theorem dX12_addBridge_55 : decode cX12_addBridge 55 = .ok (.iload 6, 2) := by decide +kernel
theorem dX12_addBridge_57 : decode cX12_addBridge 57 = .ok (.iconst 5, 1) := by decide +kernel
theorem dX12_addBridge_58 : decode cX12_addBridge 58 = .ok (.if_icmp .ne 6, 3) := by decide +kernel
theorem dX12_addBridge_61 : decode cX12_addBridge 61 = .ok (.bipush (-4), 2) := by decide +kernel
theorem dX12_addBridge_63 : decode cX12_addBridge 63 = .ok (.ireturn, 1) := by decide +kernel
theorem dX12_addBridge_64 : decode cX12_addBridge 64 = .ok (.aload_n 0, 1) := by decide +kernel
theorem dX12_addBridge_65 : decode cX12_addBridge 65 = .ok (.getfield 7, 3) := by decide +kernel
theorem dX12_addBridge_68 : decode cX12_addBridge 68 = .ok (.iload_n 1, 1) := by decide +kernel
theorem dX12_addBridge_69 : decode cX12_addBridge 69 = .ok (.iconst 1, 1) := by decide +kernel
theorem dX12_addBridge_70 : decode cX12_addBridge 70 = .ok (.iadd, 1) := by decide +kernel
theorem dX12_addBridge_71 : decode cX12_addBridge 71 = .ok (.iload 6, 2) := by decide +kernel
theorem dX12_addBridge_73 : decode cX12_addBridge 73 = .ok (.iadd, 1) := by decide +kernel
theorem dX12_addBridge_74 : decode cX12_addBridge 74 = .ok (.iload_n 2, 1) := by decide +kernel
theorem dX12_addBridge_75 : decode cX12_addBridge 75 = .ok (.iastore, 1) := by decide +kernel
theorem dX12_addBridge_76 : decode cX12_addBridge 76 = .ok (.aload_n 0, 1) := by decide +kernel
theorem dX12_addBridge_77 : decode cX12_addBridge 77 = .ok (.getfield 7, 3) := by decide +kernel
theorem dX12_addBridge_80 : decode cX12_addBridge 80 = .ok (.iload_n 1, 1) := by decide +kernel
theorem dX12_addBridge_81 : decode cX12_addBridge 81 = .ok (.bipush 6, 2) := by decide +kernel
theorem dX12_addBridge_83 : decode cX12_addBridge 83 = .ok (.iadd, 1) := by decide +kernel
theorem dX12_addBridge_84 : decode cX12_addBridge 84 = .ok (.iload 6, 2) := by decide +kernel
theorem dX12_addBridge_86 : decode cX12_addBridge 86 = .ok (.iadd, 1) := by decide +kernel
theorem dX12_addBridge_87 : decode cX12_addBridge 87 = .ok (.iload_n 3, 1) := by decide +kernel
theorem dX12_addBridge_88 : decode cX12_addBridge 88 = .ok (.iastore, 1) := by decide +kernel
theorem dX12_addBridge_89 : decode cX12_addBridge 89 = .ok (.aload_n 0, 1) := by decide +kernel
theorem dX12_addBridge_90 : decode cX12_addBridge 90 = .ok (.getfield 7, 3) := by decide +kernel
theorem dX12_addBridge_93 : decode cX12_addBridge 93 = .ok (.iload_n 1, 1) := by decide +kernel
theorem dX12_addBridge_94 : decode cX12_addBridge 94 = .ok (.bipush 11, 2) := by decide +kernel
theorem dX12_addBridge_96 : decode cX12_addBridge 96 = .ok (.iadd, 1) := by decide +kernel
theorem dX12_addBridge_97 : decode cX12_addBridge 97 = .ok (.iload 6, 2) := by decide +kernel
theorem dX12_addBridge_99 : decode cX12_addBridge 99 = .ok (.iadd, 1) := by decide +kernel
theorem dX12_addBridge_100 : decode cX12_addBridge 100 = .ok (.iload 4, 2) := by decide +kernel
theorem dX12_addBridge_102 : decode cX12_addBridge 102 = .ok (.iastore, 1) := by decide +kernel
theorem dX12_addBridge_103 : decode cX12_addBridge 103 = .ok (.aload_n 0, 1) := by decide +kernel
theorem dX12_addBridge_104 : decode cX12_addBridge 104 = .ok (.getfield 7, 3) := by decide +kernel
theorem dX12_addBridge_107 : decode cX12_addBridge 107 = .ok (.iload_n 1, 1) := by decide +kernel
theorem dX12_addBridge_108 : decode cX12_addBridge 108 = .ok (.bipush 16, 2) := by decide +kernel
theorem dX12_addBridge_110 : decode cX12_addBridge 110 = .ok (.iadd, 1) := by decide +kernel
theorem dX12_addBridge_111 : decode cX12_addBridge 111 = .ok (.iload 6, 2) := by decide +kernel
theorem dX12_addBridge_113 : decode cX12_addBridge 113 = .ok (.iadd, 1) := by decide +kernel
theorem dX12_addBridge_114 : decode cX12_addBridge 114 = .ok (.iconst 0, 1) := by decide +kernel
theorem dX12_addBridge_115 : decode cX12_addBridge 115 = .ok (.iastore, 1) := by decide +kernel
theorem dX12_addBridge_116 : decode cX12_addBridge 116 = .ok (.aload_n 0, 1) := by decide +kernel
theorem dX12_addBridge_117 : decode cX12_addBridge 117 = .ok (.getfield 7, 3) := by decide +kernel
theorem dX12_addBridge_120 : decode cX12_addBridge 120 = .ok (.iload_n 1, 1) := by decide +kernel
theorem dX12_addBridge_121 : decode cX12_addBridge 121 = .ok (.bipush 21, 2) := by decide +kernel
theorem dX12_addBridge_123 : decode cX12_addBridge 123 = .ok (.iadd, 1) := by decide +kernel
theorem dX12_addBridge_124 : decode cX12_addBridge 124 = .ok (.dup2, 1) := by decide +kernel
theorem dX12_addBridge_125 : decode cX12_addBridge 125 = .ok (.iaload, 1) := by decide +kernel
theorem dX12_addBridge_126 : decode cX12_addBridge 126 = .ok (.iload 5, 2) := by decide +kernel
theorem dX12_addBridge_128 : decode cX12_addBridge 128 = .ok (.ifCond .eq 10, 3) := by decide +kernel
theorem dX12_addBridge_131 : decode cX12_addBridge 131 = .ok (.iconst 1, 1) := by decide +kernel
theorem dX12_addBridge_132 : decode cX12_addBridge 132 = .ok (.iload 6, 2) := by decide +kernel
theorem dX12_addBridge_134 : decode cX12_addBridge 134 = .ok (.ishl, 1) := by decide +kernel
theorem dX12_addBridge_135 : decode cX12_addBridge 135 = .ok (.goto 4, 3) := by decide +kernel
theorem dX12_addBridge_138 : decode cX12_addBridge 138 = .ok (.iconst 0, 1) := by decide +kernel
theorem dX12_addBridge_139 : decode cX12_addBridge 139 = .ok (.ior, 1) := by decide +kernel
theorem dX12_addBridge_140 : decode cX12_addBridge 140 = .ok (.iastore, 1) := by decide +kernel
theorem dX12_addBridge_141 : decode cX12_addBridge 141 = .ok (.aload_n 0, 1) := by decide +kernel
theorem dX12_addBridge_142 : decode cX12_addBridge 142 = .ok (.getfield 7, 3) := by decide +kernel
theorem dX12_addBridge_145 : decode cX12_addBridge 145 = .ok (.iload_n 1, 1) := by decide +kernel
theorem dX12_addBridge_146 : decode cX12_addBridge 146 = .ok (.iconst 0, 1) := by decide +kernel
theorem dX12_addBridge_147 : decode cX12_addBridge 147 = .ok (.iadd, 1) := by decide +kernel
theorem dX12_addBridge_148 : decode cX12_addBridge 148 = .ok (.dup2, 1) := by decide +kernel
theorem dX12_addBridge_149 : decode cX12_addBridge 149 = .ok (.iaload, 1) := by decide +kernel
theorem dX12_addBridge_150 : decode cX12_addBridge 150 = .ok (.iconst 1, 1) := by decide +kernel
theorem dX12_addBridge_151 : decode cX12_addBridge 151 = .ok (.iadd, 1) := by decide +kernel
theorem dX12_addBridge_152 : decode cX12_addBridge 152 = .ok (.iastore, 1) := by decide +kernel
theorem dX12_addBridge_153 : decode cX12_addBridge 153 = .ok (.aload_n 0, 1) := by decide +kernel
theorem dX12_addBridge_154 : decode cX12_addBridge 154 = .ok (.getfield 7, 3) := by decide +kernel
theorem dX12_addBridge_157 : decode cX12_addBridge 157 = .ok (.iload_n 1, 1) := by decide +kernel
theorem dX12_addBridge_158 : decode cX12_addBridge 158 = .ok (.bipush 36, 2) := by decide +kernel
theorem dX12_addBridge_160 : decode cX12_addBridge 160 = .ok (.iadd, 1) := by decide +kernel
theorem dX12_addBridge_161 : decode cX12_addBridge 161 = .ok (.iconst 0, 1) := by decide +kernel
theorem dX12_addBridge_162 : decode cX12_addBridge 162 = .ok (.iastore, 1) := by decide +kernel
theorem dX12_addBridge_163 : decode cX12_addBridge 163 = .ok (.iload 6, 2) := by decide +kernel
theorem dX12_addBridge_165 : decode cX12_addBridge 165 = .ok (.ireturn, 1) := by decide +kernel
theorem dX12_isBridge_0 : decode cX12_isBridge 0 = .ok (.iload_n 2, 1) := by decide +kernel
theorem dX12_isBridge_1 : decode cX12_isBridge 1 = .ok (.i2l, 1) := by decide +kernel
theorem dX12_isBridge_2 : decode cX12_isBridge 2 = .ok (.lconst 0, 1) := by decide +kernel
theorem dX12_isBridge_3 : decode cX12_isBridge 3 = .ok (.aload_n 0, 1) := by decide +kernel
theorem dX12_isBridge_4 : decode cX12_isBridge 4 = .ok (.getfield 7, 3) := by decide +kernel
theorem dX12_isBridge_7 : decode cX12_isBridge 7 = .ok (.iload_n 1, 1) := by decide +kernel
theorem dX12_isBridge_8 : decode cX12_isBridge 8 = .ok (.iconst 0, 1) := by decide +kernel
theorem dX12_isBridge_9 : decode cX12_isBridge 9 = .ok (.iadd, 1) := by decide +kernel
theorem dX12_isBridge_10 : decode cX12_isBridge 10 = .ok (.iaload, 1) := by decide +kernel
theorem dX12_isBridge_11 : decode cX12_isBridge 11 = .ok (.iconst 1, 1) := by decide +kernel
theorem dX12_isBridge_12 : decode cX12_isBridge 12 = .ok (.isub, 1) := by decide +kernel
theorem dX12_isBridge_13 : decode cX12_isBridge 13 = .ok (.i2l, 1) := by decide +kernel
theorem dX12_isBridge_14 : decode cX12_isBridge 14 = .ok (.invokestatic 62, 3) := by decide +kernel
theorem dX12_isBridge_17 : decode cX12_isBridge 17 = .ok (.ireturn, 1) := by decide +kernel
theorem dX12_isTied_0 : decode cX12_isTied 0 = .ok (.iconst 0, 1) := by decide +kernel
theorem dX12_isTied_1 : decode cX12_isTied 1 = .ok (.istore_n 3, 1) := by decide +kernel
theorem dX12_isTied_2 : decode cX12_isTied 2 = .ok (.iconst 0, 1) := by decide +kernel
theorem dX12_isTied_3 : decode cX12_isTied 3 = .ok (.istore 4, 2) := by decide +kernel
theorem dX12_isTied_5 : decode cX12_isTied 5 = .ok (.iload 4, 2) := by decide +kernel
theorem dX12_isTied_7 : decode cX12_isTied 7 = .ok (.aload_n 0, 1) := by decide +kernel
theorem dX12_isTied_8 : decode cX12_isTied 8 = .ok (.getfield 7, 3) := by decide +kernel
theorem dX12_isTied_11 : decode cX12_isTied 11 = .ok (.iload_n 1, 1) := by decide +kernel
theorem dX12_isTied_12 : decode cX12_isTied 12 = .ok (.bipush 22, 2) := by decide +kernel
theorem dX12_isTied_14 : decode cX12_isTied 14 = .ok (.iadd, 1) := by decide +kernel
theorem dX12_isTied_15 : decode cX12_isTied 15 = .ok (.iaload, 1) := by decide +kernel
theorem dX12_isTied_16 : decode cX12_isTied 16 = .ok (.if_icmp .ge 51, 3) := by decide +kernel
theorem dX12_isTied_19 : decode cX12_isTied 19 = .ok (.iload_n 3, 1) := by decide +kernel
theorem dX12_isTied_20 : decode cX12_isTied 20 = .ok (.ifCond .ne 35, 3) := by decide +kernel
theorem dX12_isTied_23 : decode cX12_isTied 23 = .ok (.aload_n 0, 1) := by decide +kernel
theorem dX12_isTied_24 : decode cX12_isTied 24 = .ok (.getfield 7, 3) := by decide +kernel
theorem dX12_isTied_27 : decode cX12_isTied 27 = .ok (.iload_n 1, 1) := by decide +kernel
theorem dX12_isTied_28 : decode cX12_isTied 28 = .ok (.bipush 23, 2) := by decide +kernel
theorem dX12_isTied_30 : decode cX12_isTied 30 = .ok (.iadd, 1) := by decide +kernel
theorem dX12_isTied_31 : decode cX12_isTied 31 = .ok (.iload 4, 2) := by decide +kernel
theorem dX12_isTied_33 : decode cX12_isTied 33 = .ok (.iadd, 1) := by decide +kernel
theorem dX12_isTied_34 : decode cX12_isTied 34 = .ok (.iaload, 1) := by decide +kernel
theorem dX12_isTied_35 : decode cX12_isTied 35 = .ok (.iload_n 2, 1) := by decide +kernel
theorem dX12_isTied_36 : decode cX12_isTied 36 = .ok (.if_icmp .eq 19, 3) := by decide +kernel
theorem dX12_isTied_39 : decode cX12_isTied 39 = .ok (.aload_n 0, 1) := by decide +kernel
theorem dX12_isTied_40 : decode cX12_isTied 40 = .ok (.getfield 7, 3) := by decide +kernel
theorem dX12_isTied_43 : decode cX12_isTied 43 = .ok (.iload_n 1, 1) := by decide +kernel
theorem dX12_isTied_44 : decode cX12_isTied 44 = .ok (.bipush 25, 2) := by decide +kernel
theorem dX12_isTied_46 : decode cX12_isTied 46 = .ok (.iadd, 1) := by decide +kernel
theorem dX12_isTied_47 : decode cX12_isTied 47 = .ok (.iload 4, 2) := by decide +kernel
theorem dX12_isTied_49 : decode cX12_isTied 49 = .ok (.iadd, 1) := by decide +kernel
theorem dX12_isTied_50 : decode cX12_isTied 50 = .ok (.iaload, 1) := by decide +kernel
theorem dX12_isTied_51 : decode cX12_isTied 51 = .ok (.iload_n 2, 1) := by decide +kernel
theorem dX12_isTied_52 : decode cX12_isTied 52 = .ok (.if_icmp .ne 7, 3) := by decide +kernel
theorem dX12_isTied_55 : decode cX12_isTied 55 = .ok (.iconst 1, 1) := by decide +kernel
theorem dX12_isTied_56 : decode cX12_isTied 56 = .ok (.goto 4, 3) := by decide +kernel
theorem dX12_isTied_59 : decode cX12_isTied 59 = .ok (.iconst 0, 1) := by decide +kernel
theorem dX12_isTied_60 : decode cX12_isTied 60 = .ok (.istore_n 3, 1) := by decide +kernel
theorem dX12_isTied_61 : decode cX12_isTied 61 = .ok (.iinc 4 1, 3) := by decide +kernel
theorem dX12_isTied_64 : decode cX12_isTied 64 = .ok (.goto (-59), 3) := by decide +kernel
theorem dX12_isTied_67 : decode cX12_isTied 67 = .ok (.iload_n 3, 1) := by decide +kernel
theorem dX12_isTied_68 : decode cX12_isTied 68 = .ok (.ireturn, 1) := by decide +kernel
theorem dX12_addChain_0 : decode cX12_addChain 0 = .ok (.aload_n 0, 1) := by decide +kernel
theorem dX12_addChain_1 : decode cX12_addChain 1 = .ok (.iload_n 1, 1) := by decide +kernel
theorem dX12_addChain_2 : decode cX12_addChain 2 = .ok (.iload_n 2, 1) := by decide +kernel
theorem dX12_addChain_3 : decode cX12_addChain 3 = .ok (.invokevirtual 68, 3) := by decide +kernel
theorem dX12_addChain_6 : decode cX12_addChain 6 = .ok (.ifCond .eq 30, 3) := by decide +kernel
theorem dX12_addChain_9 : decode cX12_addChain 9 = .ok (.aload_n 0, 1) := by decide +kernel
theorem dX12_addChain_10 : decode cX12_addChain 10 = .ok (.iload_n 1, 1) := by decide +kernel
theorem dX12_addChain_11 : decode cX12_addChain 11 = .ok (.iload_n 3, 1) := by decide +kernel
theorem dX12_addChain_12 : decode cX12_addChain 12 = .ok (.invokevirtual 68, 3) := by decide +kernel
theorem dX12_addChain_15 : decode cX12_addChain 15 = .ok (.ifCond .eq 21, 3) := by decide +kernel
theorem dX12_addChain_18 : decode cX12_addChain 18 = .ok (.iload_n 2, 1) := by decide +kernel
theorem dX12_addChain_19 : decode cX12_addChain 19 = .ok (.iload_n 3, 1) := by decide +kernel
theorem dX12_addChain_20 : decode cX12_addChain 20 = .ok (.if_icmp .eq 16, 3) := by decide +kernel
theorem dX12_addChain_23 : decode cX12_addChain 23 = .ok (.iload 4, 2) := by decide +kernel
theorem dX12_addChain_25 : decode cX12_addChain 25 = .ok (.i2l, 1) := by decide +kernel
theorem dX12_addChain_26 : decode cX12_addChain 26 = .ok (.lconst 0, 1) := by decide +kernel
theorem dX12_addChain_27 : decode cX12_addChain 27 = .ok (.ldc2_w 72, 3) := by decide +kernel
theorem dX12_addChain_30 : decode cX12_addChain 30 = .ok (.invokestatic 62, 3) := by decide +kernel
theorem dX12_addChain_33 : decode cX12_addChain 33 = .ok (.ifCond .ne 6, 3) := by decide +kernel
theorem dX12_addChain_36 : decode cX12_addChain 36 = .ok (.bipush (-2), 2) := by decide +kernel
theorem dX12_addChain_38 : decode cX12_addChain 38 = .ok (.ireturn, 1) := by decide +kernel
theorem dX12_addChain_39 : decode cX12_addChain 39 = .ok (.aload_n 0, 1) := by decide +kernel
theorem dX12_addChain_40 : decode cX12_addChain 40 = .ok (.iload_n 1, 1) := by decide +kernel
theorem dX12_addChain_41 : decode cX12_addChain 41 = .ok (.iload_n 2, 1) := by decide +kernel
theorem dX12_addChain_42 : decode cX12_addChain 42 = .ok (.invokevirtual 74, 3) := by decide +kernel
theorem dX12_addChain_45 : decode cX12_addChain 45 = .ok (.ifCond .ne 12, 3) := by decide +kernel
theorem dX12_addChain_48 : decode cX12_addChain 48 = .ok (.aload_n 0, 1) := by decide +kernel
theorem dX12_addChain_49 : decode cX12_addChain 49 = .ok (.iload_n 1, 1) := by decide +kernel
theorem dX12_addChain_50 : decode cX12_addChain 50 = .ok (.iload_n 3, 1) := by decide +kernel
theorem dX12_addChain_51 : decode cX12_addChain 51 = .ok (.invokevirtual 74, 3) := by decide +kernel
theorem dX12_addChain_54 : decode cX12_addChain 54 = .ok (.ifCond .eq 6, 3) := by decide +kernel
theorem dX12_addChain_57 : decode cX12_addChain 57 = .ok (.bipush (-3), 2) := by decide +kernel
theorem dX12_addChain_59 : decode cX12_addChain 59 = .ok (.ireturn, 1) := by decide +kernel
theorem dX12_addChain_60 : decode cX12_addChain 60 = .ok (.aload_n 0, 1) := by decide +kernel
theorem dX12_addChain_61 : decode cX12_addChain 61 = .ok (.getfield 7, 3) := by decide +kernel
theorem dX12_addChain_64 : decode cX12_addChain 64 = .ok (.iload_n 1, 1) := by decide +kernel
theorem dX12_addChain_65 : decode cX12_addChain 65 = .ok (.bipush 22, 2) := by decide +kernel
theorem dX12_addChain_67 : decode cX12_addChain 67 = .ok (.iadd, 1) := by decide +kernel
theorem dX12_addChain_68 : decode cX12_addChain 68 = .ok (.iaload, 1) := by decide +kernel
theorem dX12_addChain_69 : decode cX12_addChain 69 = .ok (.istore 5, 2) := by decide +kernel
theorem dX12_addChain_71 : decode cX12_addChain 71 = .ok (.iload 5, 2) := by decide +kernel
theorem dX12_addChain_73 : decode cX12_addChain 73 = .ok (.iconst 2, 1) := by decide +kernel
theorem dX12_addChain_74 : decode cX12_addChain 74 = .ok (.if_icmp .ne 6, 3) := by decide +kernel
theorem dX12_addChain_77 : decode cX12_addChain 77 = .ok (.bipush (-4), 2) := by decide +kernel
theorem dX12_addChain_79 : decode cX12_addChain 79 = .ok (.ireturn, 1) := by decide +kernel
theorem dX12_addChain_80 : decode cX12_addChain 80 = .ok (.aload_n 0, 1) := by decide +kernel
theorem dX12_addChain_81 : decode cX12_addChain 81 = .ok (.getfield 7, 3) := by decide +kernel
theorem dX12_addChain_84 : decode cX12_addChain 84 = .ok (.iload_n 1, 1) := by decide +kernel
theorem dX12_addChain_85 : decode cX12_addChain 85 = .ok (.bipush 23, 2) := by decide +kernel
theorem dX12_addChain_87 : decode cX12_addChain 87 = .ok (.iadd, 1) := by decide +kernel
theorem dX12_addChain_88 : decode cX12_addChain 88 = .ok (.iload 5, 2) := by decide +kernel
theorem dX12_addChain_90 : decode cX12_addChain 90 = .ok (.iadd, 1) := by decide +kernel
theorem dX12_addChain_91 : decode cX12_addChain 91 = .ok (.iload_n 2, 1) := by decide +kernel
theorem dX12_addChain_92 : decode cX12_addChain 92 = .ok (.iastore, 1) := by decide +kernel
theorem dX12_addChain_93 : decode cX12_addChain 93 = .ok (.aload_n 0, 1) := by decide +kernel
theorem dX12_addChain_94 : decode cX12_addChain 94 = .ok (.getfield 7, 3) := by decide +kernel
theorem dX12_addChain_97 : decode cX12_addChain 97 = .ok (.iload_n 1, 1) := by decide +kernel
theorem dX12_addChain_98 : decode cX12_addChain 98 = .ok (.bipush 25, 2) := by decide +kernel
theorem dX12_addChain_100 : decode cX12_addChain 100 = .ok (.iadd, 1) := by decide +kernel
theorem dX12_addChain_101 : decode cX12_addChain 101 = .ok (.iload 5, 2) := by decide +kernel
theorem dX12_addChain_103 : decode cX12_addChain 103 = .ok (.iadd, 1) := by decide +kernel
theorem dX12_addChain_104 : decode cX12_addChain 104 = .ok (.iload_n 3, 1) := by decide +kernel
theorem dX12_addChain_105 : decode cX12_addChain 105 = .ok (.iastore, 1) := by decide +kernel
theorem dX12_addChain_106 : decode cX12_addChain 106 = .ok (.aload_n 0, 1) := by decide +kernel
theorem dX12_addChain_107 : decode cX12_addChain 107 = .ok (.getfield 7, 3) := by decide +kernel
theorem dX12_addChain_110 : decode cX12_addChain 110 = .ok (.iload_n 1, 1) := by decide +kernel
theorem dX12_addChain_111 : decode cX12_addChain 111 = .ok (.bipush 27, 2) := by decide +kernel
theorem dX12_addChain_113 : decode cX12_addChain 113 = .ok (.iadd, 1) := by decide +kernel
theorem dX12_addChain_114 : decode cX12_addChain 114 = .ok (.iload 5, 2) := by decide +kernel
theorem dX12_addChain_116 : decode cX12_addChain 116 = .ok (.iadd, 1) := by decide +kernel
theorem dX12_addChain_117 : decode cX12_addChain 117 = .ok (.iload 4, 2) := by decide +kernel
theorem dX12_addChain_119 : decode cX12_addChain 119 = .ok (.iastore, 1) := by decide +kernel
theorem dX12_addChain_120 : decode cX12_addChain 120 = .ok (.aload_n 0, 1) := by decide +kernel
theorem dX12_addChain_121 : decode cX12_addChain 121 = .ok (.getfield 7, 3) := by decide +kernel
theorem dX12_addChain_124 : decode cX12_addChain 124 = .ok (.iload_n 1, 1) := by decide +kernel
theorem dX12_addChain_125 : decode cX12_addChain 125 = .ok (.bipush 22, 2) := by decide +kernel
theorem dX12_addChain_127 : decode cX12_addChain 127 = .ok (.iadd, 1) := by decide +kernel
theorem dX12_addChain_128 : decode cX12_addChain 128 = .ok (.dup2, 1) := by decide +kernel
theorem dX12_addChain_129 : decode cX12_addChain 129 = .ok (.iaload, 1) := by decide +kernel
theorem dX12_addChain_130 : decode cX12_addChain 130 = .ok (.iconst 1, 1) := by decide +kernel
theorem dX12_addChain_131 : decode cX12_addChain 131 = .ok (.iadd, 1) := by decide +kernel
theorem dX12_addChain_132 : decode cX12_addChain 132 = .ok (.iastore, 1) := by decide +kernel
theorem dX12_addChain_133 : decode cX12_addChain 133 = .ok (.aload_n 0, 1) := by decide +kernel
theorem dX12_addChain_134 : decode cX12_addChain 134 = .ok (.getfield 7, 3) := by decide +kernel
theorem dX12_addChain_137 : decode cX12_addChain 137 = .ok (.iload_n 1, 1) := by decide +kernel
theorem dX12_addChain_138 : decode cX12_addChain 138 = .ok (.bipush 36, 2) := by decide +kernel
theorem dX12_addChain_140 : decode cX12_addChain 140 = .ok (.iadd, 1) := by decide +kernel
theorem dX12_addChain_141 : decode cX12_addChain 141 = .ok (.iconst 0, 1) := by decide +kernel
theorem dX12_addChain_142 : decode cX12_addChain 142 = .ok (.iastore, 1) := by decide +kernel
theorem dX12_addChain_143 : decode cX12_addChain 143 = .ok (.iload 5, 2) := by decide +kernel
theorem dX12_addChain_145 : decode cX12_addChain 145 = .ok (.ireturn, 1) := by decide +kernel
theorem dX12_setLoad_0 : decode cX12_setLoad 0 = .ok (.aload_n 0, 1) := by decide +kernel
theorem dX12_setLoad_1 : decode cX12_setLoad 1 = .ok (.iload_n 1, 1) := by decide +kernel
theorem dX12_setLoad_2 : decode cX12_setLoad 2 = .ok (.iload_n 2, 1) := by decide +kernel
theorem dX12_setLoad_3 : decode cX12_setLoad 3 = .ok (.invokevirtual 68, 3) := by decide +kernel
theorem dX12_setLoad_6 : decode cX12_setLoad 6 = .ok (.ifCond .eq 15, 3) := by decide +kernel
theorem dX12_setLoad_9 : decode cX12_setLoad 9 = .ok (.iload_n 3, 1) := by decide +kernel
theorem dX12_setLoad_10 : decode cX12_setLoad 10 = .ok (.i2l, 1) := by decide +kernel
theorem dX12_setLoad_11 : decode cX12_setLoad 11 = .ok (.lconst 0, 1) := by decide +kernel
theorem dX12_setLoad_12 : decode cX12_setLoad 12 = .ok (.ldc2_w 77, 3) := by decide +kernel
theorem dX12_setLoad_15 : decode cX12_setLoad 15 = .ok (.invokestatic 62, 3) := by decide +kernel
theorem dX12_setLoad_18 : decode cX12_setLoad 18 = .ok (.ifCond .ne 6, 3) := by decide +kernel
theorem dX12_setLoad_21 : decode cX12_setLoad 21 = .ok (.bipush (-2), 2) := by decide +kernel
theorem dX12_setLoad_23 : decode cX12_setLoad 23 = .ok (.ireturn, 1) := by decide +kernel
theorem dX12_setLoad_24 : decode cX12_setLoad 24 = .ok (.aload_n 0, 1) := by decide +kernel
theorem dX12_setLoad_25 : decode cX12_setLoad 25 = .ok (.getfield 7, 3) := by decide +kernel
theorem dX12_setLoad_28 : decode cX12_setLoad 28 = .ok (.iload_n 1, 1) := by decide +kernel
theorem dX12_setLoad_29 : decode cX12_setLoad 29 = .ok (.bipush 16, 2) := by decide +kernel
theorem dX12_setLoad_31 : decode cX12_setLoad 31 = .ok (.iadd, 1) := by decide +kernel
theorem dX12_setLoad_32 : decode cX12_setLoad 32 = .ok (.iload_n 2, 1) := by decide +kernel
theorem dX12_setLoad_33 : decode cX12_setLoad 33 = .ok (.iadd, 1) := by decide +kernel
theorem dX12_setLoad_34 : decode cX12_setLoad 34 = .ok (.iaload, 1) := by decide +kernel
theorem dX12_setLoad_35 : decode cX12_setLoad 35 = .ok (.istore 4, 2) := by decide +kernel
theorem dX12_setLoad_37 : decode cX12_setLoad 37 = .ok (.aload_n 0, 1) := by decide +kernel
theorem dX12_setLoad_38 : decode cX12_setLoad 38 = .ok (.getfield 7, 3) := by decide +kernel
theorem dX12_setLoad_41 : decode cX12_setLoad 41 = .ok (.iload_n 1, 1) := by decide +kernel
theorem dX12_setLoad_42 : decode cX12_setLoad 42 = .ok (.bipush 16, 2) := by decide +kernel
theorem dX12_setLoad_44 : decode cX12_setLoad 44 = .ok (.iadd, 1) := by decide +kernel
theorem dX12_setLoad_45 : decode cX12_setLoad 45 = .ok (.iload_n 2, 1) := by decide +kernel
theorem dX12_setLoad_46 : decode cX12_setLoad 46 = .ok (.iadd, 1) := by decide +kernel
theorem dX12_setLoad_47 : decode cX12_setLoad 47 = .ok (.iload_n 3, 1) := by decide +kernel
theorem dX12_setLoad_48 : decode cX12_setLoad 48 = .ok (.iastore, 1) := by decide +kernel
theorem dX12_setLoad_49 : decode cX12_setLoad 49 = .ok (.iload 4, 2) := by decide +kernel
theorem dX12_setLoad_51 : decode cX12_setLoad 51 = .ok (.ireturn, 1) := by decide +kernel
theorem dX12_addOne_0 : decode cX12_addOne 0 = .ok (.iload_n 2, 1) := by decide +kernel
theorem dX12_addOne_1 : decode cX12_addOne 1 = .ok (.i2l, 1) := by decide +kernel
theorem dX12_addOne_2 : decode cX12_addOne 2 = .ok (.lconst 1, 1) := by decide +kernel
theorem dX12_addOne_3 : decode cX12_addOne 3 = .ok (.ldc2_w 72, 3) := by decide +kernel
theorem dX12_addOne_6 : decode cX12_addOne 6 = .ok (.invokestatic 62, 3) := by decide +kernel
theorem dX12_addOne_9 : decode cX12_addOne 9 = .ok (.ifCond .eq 15, 3) := by decide +kernel
theorem dX12_addOne_12 : decode cX12_addOne 12 = .ok (.iload_n 3, 1) := by decide +kernel
theorem dX12_addOne_13 : decode cX12_addOne 13 = .ok (.i2l, 1) := by decide +kernel
theorem dX12_addOne_14 : decode cX12_addOne 14 = .ok (.lconst 0, 1) := by decide +kernel
theorem dX12_addOne_15 : decode cX12_addOne 15 = .ok (.ldc2_w 60, 3) := by decide +kernel
theorem dX12_addOne_18 : decode cX12_addOne 18 = .ok (.invokestatic 62, 3) := by decide +kernel
theorem dX12_addOne_21 : decode cX12_addOne 21 = .ok (.ifCond .ne 6, 3) := by decide +kernel
theorem dX12_addOne_24 : decode cX12_addOne 24 = .ok (.bipush (-2), 2) := by decide +kernel
theorem dX12_addOne_26 : decode cX12_addOne 26 = .ok (.ireturn, 1) := by decide +kernel
theorem dX12_addOne_27 : decode cX12_addOne 27 = .ok (.aload_n 0, 1) := by decide +kernel
theorem dX12_addOne_28 : decode cX12_addOne 28 = .ok (.getfield 7, 3) := by decide +kernel
theorem dX12_addOne_31 : decode cX12_addOne 31 = .ok (.iload_n 1, 1) := by decide +kernel
theorem dX12_addOne_32 : decode cX12_addOne 32 = .ok (.bipush 29, 2) := by decide +kernel
theorem dX12_addOne_34 : decode cX12_addOne 34 = .ok (.iadd, 1) := by decide +kernel
theorem dX12_addOne_35 : decode cX12_addOne 35 = .ok (.iaload, 1) := by decide +kernel
theorem dX12_addOne_36 : decode cX12_addOne 36 = .ok (.istore 4, 2) := by decide +kernel
theorem dX12_addOne_38 : decode cX12_addOne 38 = .ok (.iload 4, 2) := by decide +kernel
theorem dX12_addOne_40 : decode cX12_addOne 40 = .ok (.iconst 3, 1) := by decide +kernel
theorem dX12_addOne_41 : decode cX12_addOne 41 = .ok (.if_icmp .ne 6, 3) := by decide +kernel
theorem dX12_addOne_44 : decode cX12_addOne 44 = .ok (.bipush (-4), 2) := by decide +kernel
theorem dX12_addOne_46 : decode cX12_addOne 46 = .ok (.ireturn, 1) := by decide +kernel
theorem dX12_addOne_47 : decode cX12_addOne 47 = .ok (.aload_n 0, 1) := by decide +kernel
theorem dX12_addOne_48 : decode cX12_addOne 48 = .ok (.getfield 7, 3) := by decide +kernel
theorem dX12_addOne_51 : decode cX12_addOne 51 = .ok (.iload_n 1, 1) := by decide +kernel
theorem dX12_addOne_52 : decode cX12_addOne 52 = .ok (.bipush 30, 2) := by decide +kernel
theorem dX12_addOne_54 : decode cX12_addOne 54 = .ok (.iadd, 1) := by decide +kernel
theorem dX12_addOne_55 : decode cX12_addOne 55 = .ok (.iload 4, 2) := by decide +kernel
theorem dX12_addOne_57 : decode cX12_addOne 57 = .ok (.iadd, 1) := by decide +kernel
theorem dX12_addOne_58 : decode cX12_addOne 58 = .ok (.iload_n 2, 1) := by decide +kernel
theorem dX12_addOne_59 : decode cX12_addOne 59 = .ok (.iastore, 1) := by decide +kernel
theorem dX12_addOne_60 : decode cX12_addOne 60 = .ok (.aload_n 0, 1) := by decide +kernel
theorem dX12_addOne_61 : decode cX12_addOne 61 = .ok (.getfield 7, 3) := by decide +kernel
theorem dX12_addOne_64 : decode cX12_addOne 64 = .ok (.iload_n 1, 1) := by decide +kernel
theorem dX12_addOne_65 : decode cX12_addOne 65 = .ok (.bipush 33, 2) := by decide +kernel
theorem dX12_addOne_67 : decode cX12_addOne 67 = .ok (.iadd, 1) := by decide +kernel
theorem dX12_addOne_68 : decode cX12_addOne 68 = .ok (.iload 4, 2) := by decide +kernel
theorem dX12_addOne_70 : decode cX12_addOne 70 = .ok (.iadd, 1) := by decide +kernel
theorem dX12_addOne_71 : decode cX12_addOne 71 = .ok (.iload_n 3, 1) := by decide +kernel
theorem dX12_addOne_72 : decode cX12_addOne 72 = .ok (.iastore, 1) := by decide +kernel
theorem dX12_addOne_73 : decode cX12_addOne 73 = .ok (.aload_n 0, 1) := by decide +kernel
theorem dX12_addOne_74 : decode cX12_addOne 74 = .ok (.getfield 7, 3) := by decide +kernel
theorem dX12_addOne_77 : decode cX12_addOne 77 = .ok (.iload_n 1, 1) := by decide +kernel
theorem dX12_addOne_78 : decode cX12_addOne 78 = .ok (.bipush 29, 2) := by decide +kernel
theorem dX12_addOne_80 : decode cX12_addOne 80 = .ok (.iadd, 1) := by decide +kernel
theorem dX12_addOne_81 : decode cX12_addOne 81 = .ok (.dup2, 1) := by decide +kernel
theorem dX12_addOne_82 : decode cX12_addOne 82 = .ok (.iaload, 1) := by decide +kernel
theorem dX12_addOne_83 : decode cX12_addOne 83 = .ok (.iconst 1, 1) := by decide +kernel
theorem dX12_addOne_84 : decode cX12_addOne 84 = .ok (.iadd, 1) := by decide +kernel
theorem dX12_addOne_85 : decode cX12_addOne 85 = .ok (.iastore, 1) := by decide +kernel
theorem dX12_addOne_86 : decode cX12_addOne 86 = .ok (.aload_n 0, 1) := by decide +kernel
theorem dX12_addOne_87 : decode cX12_addOne 87 = .ok (.getfield 7, 3) := by decide +kernel
theorem dX12_addOne_90 : decode cX12_addOne 90 = .ok (.iload_n 1, 1) := by decide +kernel
theorem dX12_addOne_91 : decode cX12_addOne 91 = .ok (.bipush 36, 2) := by decide +kernel
theorem dX12_addOne_93 : decode cX12_addOne 93 = .ok (.iadd, 1) := by decide +kernel
theorem dX12_addOne_94 : decode cX12_addOne 94 = .ok (.iconst 0, 1) := by decide +kernel
theorem dX12_addOne_95 : decode cX12_addOne 95 = .ok (.iastore, 1) := by decide +kernel
theorem dX12_addOne_96 : decode cX12_addOne 96 = .ok (.iload 4, 2) := by decide +kernel
theorem dX12_addOne_98 : decode cX12_addOne 98 = .ok (.ireturn, 1) := by decide +kernel
theorem dX12_bridge_0 : decode cX12_bridge 0 = .ok (.aload_n 0, 1) := by decide +kernel
theorem dX12_bridge_1 : decode cX12_bridge 1 = .ok (.aload_n 0, 1) := by decide +kernel
theorem dX12_bridge_2 : decode cX12_bridge 2 = .ok (.iconst 0, 1) := by decide +kernel
theorem dX12_bridge_3 : decode cX12_bridge 3 = .ok (.iload_n 1, 1) := by decide +kernel
theorem dX12_bridge_4 : decode cX12_bridge 4 = .ok (.iload_n 2, 1) := by decide +kernel
theorem dX12_bridge_5 : decode cX12_bridge 5 = .ok (.iload_n 3, 1) := by decide +kernel
theorem dX12_bridge_6 : decode cX12_bridge 6 = .ok (.iload 4, 2) := by decide +kernel
theorem dX12_bridge_8 : decode cX12_bridge 8 = .ok (.invokevirtual 79, 3) := by decide +kernel
theorem dX12_bridge_11 : decode cX12_bridge 11 = .ok (.invokevirtual 56, 3) := by decide +kernel
theorem dX12_bridge_14 : decode cX12_bridge 14 = .ok (.ireturn, 1) := by decide +kernel
theorem dX12_chain_0 : decode cX12_chain 0 = .ok (.aload_n 0, 1) := by decide +kernel
theorem dX12_chain_1 : decode cX12_chain 1 = .ok (.aload_n 0, 1) := by decide +kernel
theorem dX12_chain_2 : decode cX12_chain 2 = .ok (.iconst 0, 1) := by decide +kernel
theorem dX12_chain_3 : decode cX12_chain 3 = .ok (.iload_n 1, 1) := by decide +kernel
theorem dX12_chain_4 : decode cX12_chain 4 = .ok (.iload_n 2, 1) := by decide +kernel
theorem dX12_chain_5 : decode cX12_chain 5 = .ok (.iload_n 3, 1) := by decide +kernel
theorem dX12_chain_6 : decode cX12_chain 6 = .ok (.invokevirtual 83, 3) := by decide +kernel
theorem dX12_chain_9 : decode cX12_chain 9 = .ok (.invokevirtual 56, 3) := by decide +kernel
theorem dX12_chain_12 : decode cX12_chain 12 = .ok (.ireturn, 1) := by decide +kernel
theorem dX12_load_0 : decode cX12_load 0 = .ok (.aload_n 0, 1) := by decide +kernel
theorem dX12_load_1 : decode cX12_load 1 = .ok (.aload_n 0, 1) := by decide +kernel
theorem dX12_load_2 : decode cX12_load 2 = .ok (.iconst 0, 1) := by decide +kernel
theorem dX12_load_3 : decode cX12_load 3 = .ok (.iload_n 1, 1) := by decide +kernel
theorem dX12_load_4 : decode cX12_load 4 = .ok (.iload_n 2, 1) := by decide +kernel
theorem dX12_load_5 : decode cX12_load 5 = .ok (.invokevirtual 87, 3) := by decide +kernel
theorem dX12_load_8 : decode cX12_load 8 = .ok (.invokevirtual 56, 3) := by decide +kernel
theorem dX12_load_11 : decode cX12_load 11 = .ok (.ireturn, 1) := by decide +kernel
theorem dX12_one_0 : decode cX12_one 0 = .ok (.aload_n 0, 1) := by decide +kernel
theorem dX12_one_1 : decode cX12_one 1 = .ok (.aload_n 0, 1) := by decide +kernel
theorem dX12_one_2 : decode cX12_one 2 = .ok (.iconst 0, 1) := by decide +kernel
theorem dX12_one_3 : decode cX12_one 3 = .ok (.iload_n 1, 1) := by decide +kernel
theorem dX12_one_4 : decode cX12_one 4 = .ok (.iload_n 2, 1) := by decide +kernel
theorem dX12_one_5 : decode cX12_one 5 = .ok (.invokevirtual 91, 3) := by decide +kernel
theorem dX12_one_8 : decode cX12_one 8 = .ok (.invokevirtual 56, 3) := by decide +kernel
theorem dX12_one_11 : decode cX12_one 11 = .ok (.ireturn, 1) := by decide +kernel
theorem dX12_layNow_0 : decode cX12_layNow 0 = .ok (.iconst 0, 1) := by decide +kernel
theorem dX12_layNow_1 : decode cX12_layNow 1 = .ok (.istore_n 1, 1) := by decide +kernel
theorem dX12_layNow_2 : decode cX12_layNow 2 = .ok (.iload_n 1, 1) := by decide +kernel
theorem dX12_layNow_3 : decode cX12_layNow 3 = .ok (.iconst 5, 1) := by decide +kernel
theorem dX12_layNow_4 : decode cX12_layNow 4 = .ok (.if_icmp .ge 24, 3) := by decide +kernel
theorem dX12_layNow_7 : decode cX12_layNow 7 = .ok (.aload_n 0, 1) := by decide +kernel
theorem dX12_layNow_8 : decode cX12_layNow 8 = .ok (.getfield 23, 3) := by decide +kernel
theorem dX12_layNow_11 : decode cX12_layNow 11 = .ok (.iload_n 1, 1) := by decide +kernel
theorem dX12_layNow_12 : decode cX12_layNow 12 = .ok (.aload_n 0, 1) := by decide +kernel
theorem dX12_layNow_13 : decode cX12_layNow 13 = .ok (.getfield 7, 3) := by decide +kernel
theorem dX12_layNow_16 : decode cX12_layNow 16 = .ok (.bipush 16, 2) := by decide +kernel
theorem dX12_layNow_18 : decode cX12_layNow 18 = .ok (.iload_n 1, 1) := by decide +kernel
theorem dX12_layNow_19 : decode cX12_layNow 19 = .ok (.iadd, 1) := by decide +kernel
theorem dX12_layNow_20 : decode cX12_layNow 20 = .ok (.iaload, 1) := by decide +kernel
theorem dX12_layNow_21 : decode cX12_layNow 21 = .ok (.iastore, 1) := by decide +kernel
theorem dX12_layNow_22 : decode cX12_layNow 22 = .ok (.iinc 1 1, 3) := by decide +kernel
theorem dX12_layNow_25 : decode cX12_layNow 25 = .ok (.goto (-23), 3) := by decide +kernel
theorem dX12_layNow_28 : decode cX12_layNow 28 = .ok (.aload_n 0, 1) := by decide +kernel
theorem dX12_layNow_29 : decode cX12_layNow 29 = .ok (.iconst 0, 1) := by decide +kernel
theorem dX12_layNow_30 : decode cX12_layNow 30 = .ok (.putfield 94, 3) := by decide +kernel
theorem dX12_layNow_33 : decode cX12_layNow 33 = .ok (.iconst 0, 1) := by decide +kernel
theorem dX12_layNow_34 : decode cX12_layNow 34 = .ok (.istore_n 1, 1) := by decide +kernel
theorem dX12_layNow_35 : decode cX12_layNow 35 = .ok (.iload_n 1, 1) := by decide +kernel
theorem dX12_layNow_36 : decode cX12_layNow 36 = .ok (.aload_n 0, 1) := by decide +kernel
theorem dX12_layNow_37 : decode cX12_layNow 37 = .ok (.getfield 7, 3) := by decide +kernel
theorem dX12_layNow_40 : decode cX12_layNow 40 = .ok (.bipush 22, 2) := by decide +kernel
theorem dX12_layNow_42 : decode cX12_layNow 42 = .ok (.iaload, 1) := by decide +kernel
theorem dX12_layNow_43 : decode cX12_layNow 43 = .ok (.if_icmp .ge 40, 3) := by decide +kernel
theorem dX12_layNow_46 : decode cX12_layNow 46 = .ok (.aload_n 0, 1) := by decide +kernel
theorem dX12_layNow_47 : decode cX12_layNow 47 = .ok (.aload_n 0, 1) := by decide +kernel
theorem dX12_layNow_48 : decode cX12_layNow 48 = .ok (.getfield 7, 3) := by decide +kernel
theorem dX12_layNow_51 : decode cX12_layNow 51 = .ok (.bipush 23, 2) := by decide +kernel
theorem dX12_layNow_53 : decode cX12_layNow 53 = .ok (.iload_n 1, 1) := by decide +kernel
theorem dX12_layNow_54 : decode cX12_layNow 54 = .ok (.iadd, 1) := by decide +kernel
theorem dX12_layNow_55 : decode cX12_layNow 55 = .ok (.iaload, 1) := by decide +kernel
theorem dX12_layNow_56 : decode cX12_layNow 56 = .ok (.aload_n 0, 1) := by decide +kernel
theorem dX12_layNow_57 : decode cX12_layNow 57 = .ok (.getfield 7, 3) := by decide +kernel
theorem dX12_layNow_60 : decode cX12_layNow 60 = .ok (.bipush 25, 2) := by decide +kernel
theorem dX12_layNow_62 : decode cX12_layNow 62 = .ok (.iload_n 1, 1) := by decide +kernel
theorem dX12_layNow_63 : decode cX12_layNow 63 = .ok (.iadd, 1) := by decide +kernel
theorem dX12_layNow_64 : decode cX12_layNow 64 = .ok (.iaload, 1) := by decide +kernel
theorem dX12_layNow_65 : decode cX12_layNow 65 = .ok (.aload_n 0, 1) := by decide +kernel
theorem dX12_layNow_66 : decode cX12_layNow 66 = .ok (.getfield 7, 3) := by decide +kernel
theorem dX12_layNow_69 : decode cX12_layNow 69 = .ok (.bipush 27, 2) := by decide +kernel
theorem dX12_layNow_71 : decode cX12_layNow 71 = .ok (.iload_n 1, 1) := by decide +kernel
theorem dX12_layNow_72 : decode cX12_layNow 72 = .ok (.iadd, 1) := by decide +kernel
theorem dX12_layNow_73 : decode cX12_layNow 73 = .ok (.iaload, 1) := by decide +kernel
theorem dX12_layNow_74 : decode cX12_layNow 74 = .ok (.invokevirtual 98, 3) := by decide +kernel
theorem dX12_layNow_77 : decode cX12_layNow 77 = .ok (.iinc 1 1, 3) := by decide +kernel
theorem dX12_layNow_80 : decode cX12_layNow 80 = .ok (.goto (-45), 3) := by decide +kernel
theorem dX12_layNow_83 : decode cX12_layNow 83 = .ok (.aload_n 0, 1) := by decide +kernel
theorem dX12_layNow_84 : decode cX12_layNow 84 = .ok (.iconst 1, 1) := by decide +kernel
theorem dX12_layNow_85 : decode cX12_layNow 85 = .ok (.aload_n 0, 1) := by decide +kernel
theorem dX12_layNow_86 : decode cX12_layNow 86 = .ok (.getfield 7, 3) := by decide +kernel
theorem dX12_layNow_89 : decode cX12_layNow 89 = .ok (.bipush 29, 2) := by decide +kernel
theorem dX12_layNow_91 : decode cX12_layNow 91 = .ok (.iaload, 1) := by decide +kernel
theorem dX12_layNow_92 : decode cX12_layNow 92 = .ok (.ishl, 1) := by decide +kernel
theorem dX12_layNow_93 : decode cX12_layNow 93 = .ok (.iconst 1, 1) := by decide +kernel
theorem dX12_layNow_94 : decode cX12_layNow 94 = .ok (.isub, 1) := by decide +kernel
theorem dX12_layNow_95 : decode cX12_layNow 95 = .ok (.putfield 102, 3) := by decide +kernel
theorem dX12_layNow_98 : decode cX12_layNow 98 = .ok (.return_, 1) := by decide +kernel
theorem dX12_tieMore_0 : decode cX12_tieMore 0 = .ok (.aload_n 0, 1) := by decide +kernel
theorem dX12_tieMore_1 : decode cX12_tieMore 1 = .ok (.getfield 26, 3) := by decide +kernel
theorem dX12_tieMore_4 : decode cX12_tieMore 4 = .ok (.aload_n 0, 1) := by decide +kernel
theorem dX12_tieMore_5 : decode cX12_tieMore 5 = .ok (.getfield 94, 3) := by decide +kernel
theorem dX12_tieMore_8 : decode cX12_tieMore 8 = .ok (.iload_n 1, 1) := by decide +kernel
theorem dX12_tieMore_9 : decode cX12_tieMore 9 = .ok (.iastore, 1) := by decide +kernel
theorem dX12_tieMore_10 : decode cX12_tieMore 10 = .ok (.aload_n 0, 1) := by decide +kernel
theorem dX12_tieMore_11 : decode cX12_tieMore 11 = .ok (.getfield 29, 3) := by decide +kernel
theorem dX12_tieMore_14 : decode cX12_tieMore 14 = .ok (.aload_n 0, 1) := by decide +kernel
theorem dX12_tieMore_15 : decode cX12_tieMore 15 = .ok (.getfield 94, 3) := by decide +kernel
theorem dX12_tieMore_18 : decode cX12_tieMore 18 = .ok (.iload_n 2, 1) := by decide +kernel
theorem dX12_tieMore_19 : decode cX12_tieMore 19 = .ok (.iastore, 1) := by decide +kernel
theorem dX12_tieMore_20 : decode cX12_tieMore 20 = .ok (.aload_n 0, 1) := by decide +kernel
theorem dX12_tieMore_21 : decode cX12_tieMore 21 = .ok (.getfield 32, 3) := by decide +kernel
theorem dX12_tieMore_24 : decode cX12_tieMore 24 = .ok (.aload_n 0, 1) := by decide +kernel
theorem dX12_tieMore_25 : decode cX12_tieMore 25 = .ok (.getfield 94, 3) := by decide +kernel
theorem dX12_tieMore_28 : decode cX12_tieMore 28 = .ok (.iload_n 3, 1) := by decide +kernel
theorem dX12_tieMore_29 : decode cX12_tieMore 29 = .ok (.iastore, 1) := by decide +kernel
theorem dX12_tieMore_30 : decode cX12_tieMore 30 = .ok (.aload_n 0, 1) := by decide +kernel
theorem dX12_tieMore_31 : decode cX12_tieMore 31 = .ok (.dup, 1) := by decide +kernel
theorem dX12_tieMore_32 : decode cX12_tieMore 32 = .ok (.getfield 94, 3) := by decide +kernel
theorem dX12_tieMore_35 : decode cX12_tieMore 35 = .ok (.iconst 1, 1) := by decide +kernel
theorem dX12_tieMore_36 : decode cX12_tieMore 36 = .ok (.iadd, 1) := by decide +kernel
theorem dX12_tieMore_37 : decode cX12_tieMore 37 = .ok (.putfield 94, 3) := by decide +kernel
theorem dX12_tieMore_40 : decode cX12_tieMore 40 = .ok (.return_, 1) := by decide +kernel
theorem dX12_loadOf_0 : decode cX12_loadOf 0 = .ok (.aload_n 0, 1) := by decide +kernel
theorem dX12_loadOf_1 : decode cX12_loadOf 1 = .ok (.getfield 23, 3) := by decide +kernel
theorem dX12_loadOf_4 : decode cX12_loadOf 4 = .ok (.iload_n 1, 1) := by decide +kernel
theorem dX12_loadOf_5 : decode cX12_loadOf 5 = .ok (.iaload, 1) := by decide +kernel
theorem dX12_loadOf_6 : decode cX12_loadOf 6 = .ok (.istore_n 2, 1) := by decide +kernel
theorem dX12_loadOf_7 : decode cX12_loadOf 7 = .ok (.iconst 0, 1) := by decide +kernel
theorem dX12_loadOf_8 : decode cX12_loadOf 8 = .ok (.istore_n 3, 1) := by decide +kernel
theorem dX12_loadOf_9 : decode cX12_loadOf 9 = .ok (.iload_n 3, 1) := by decide +kernel
theorem dX12_loadOf_10 : decode cX12_loadOf 10 = .ok (.aload_n 0, 1) := by decide +kernel
theorem dX12_loadOf_11 : decode cX12_loadOf 11 = .ok (.getfield 7, 3) := by decide +kernel
theorem dX12_loadOf_14 : decode cX12_loadOf 14 = .ok (.bipush 29, 2) := by decide +kernel
theorem dX12_loadOf_16 : decode cX12_loadOf 16 = .ok (.iaload, 1) := by decide +kernel
theorem dX12_loadOf_17 : decode cX12_loadOf 17 = .ok (.if_icmp .ge 48, 3) := by decide +kernel
theorem dX12_loadOf_20 : decode cX12_loadOf 20 = .ok (.iload_n 2, 1) := by decide +kernel
theorem dX12_loadOf_21 : decode cX12_loadOf 21 = .ok (.aload_n 0, 1) := by decide +kernel
theorem dX12_loadOf_22 : decode cX12_loadOf 22 = .ok (.getfield 102, 3) := by decide +kernel
theorem dX12_loadOf_25 : decode cX12_loadOf 25 = .ok (.iload_n 3, 1) := by decide +kernel
theorem dX12_loadOf_26 : decode cX12_loadOf 26 = .ok (.invokestatic 105, 3) := by decide +kernel
theorem dX12_loadOf_29 : decode cX12_loadOf 29 = .ok (.ifCond .eq 27, 3) := by decide +kernel
theorem dX12_loadOf_32 : decode cX12_loadOf 32 = .ok (.aload_n 0, 1) := by decide +kernel
theorem dX12_loadOf_33 : decode cX12_loadOf 33 = .ok (.getfield 35, 3) := by decide +kernel
theorem dX12_loadOf_36 : decode cX12_loadOf 36 = .ok (.iload_n 3, 1) := by decide +kernel
theorem dX12_loadOf_37 : decode cX12_loadOf 37 = .ok (.iaload, 1) := by decide +kernel
theorem dX12_loadOf_38 : decode cX12_loadOf 38 = .ok (.iconst 5, 1) := by decide +kernel
theorem dX12_loadOf_39 : decode cX12_loadOf 39 = .ok (.iload_n 1, 1) := by decide +kernel
theorem dX12_loadOf_40 : decode cX12_loadOf 40 = .ok (.iadd, 1) := by decide +kernel
theorem dX12_loadOf_41 : decode cX12_loadOf 41 = .ok (.if_icmp .ne 15, 3) := by decide +kernel
theorem dX12_loadOf_44 : decode cX12_loadOf 44 = .ok (.aload_n 0, 1) := by decide +kernel
theorem dX12_loadOf_45 : decode cX12_loadOf 45 = .ok (.getfield 7, 3) := by decide +kernel
theorem dX12_loadOf_48 : decode cX12_loadOf 48 = .ok (.bipush 30, 2) := by decide +kernel
theorem dX12_loadOf_50 : decode cX12_loadOf 50 = .ok (.iload_n 3, 1) := by decide +kernel
theorem dX12_loadOf_51 : decode cX12_loadOf 51 = .ok (.iadd, 1) := by decide +kernel
theorem dX12_loadOf_52 : decode cX12_loadOf 52 = .ok (.iaload, 1) := by decide +kernel
theorem dX12_loadOf_53 : decode cX12_loadOf 53 = .ok (.goto 4, 3) := by decide +kernel
theorem dX12_loadOf_56 : decode cX12_loadOf 56 = .ok (.iconst 0, 1) := by decide +kernel
theorem dX12_loadOf_57 : decode cX12_loadOf 57 = .ok (.iadd, 1) := by decide +kernel
theorem dX12_loadOf_58 : decode cX12_loadOf 58 = .ok (.istore_n 2, 1) := by decide +kernel
theorem dX12_loadOf_59 : decode cX12_loadOf 59 = .ok (.iinc 3 1, 3) := by decide +kernel
theorem dX12_loadOf_62 : decode cX12_loadOf 62 = .ok (.goto (-53), 3) := by decide +kernel
theorem dX12_loadOf_65 : decode cX12_loadOf 65 = .ok (.aload_n 0, 1) := by decide +kernel
theorem dX12_loadOf_66 : decode cX12_loadOf 66 = .ok (.getfield 7, 3) := by decide +kernel
theorem dX12_loadOf_69 : decode cX12_loadOf 69 = .ok (.bipush 11, 2) := by decide +kernel
theorem dX12_loadOf_71 : decode cX12_loadOf 71 = .ok (.iload_n 1, 1) := by decide +kernel
theorem dX12_loadOf_72 : decode cX12_loadOf 72 = .ok (.iadd, 1) := by decide +kernel
theorem dX12_loadOf_73 : decode cX12_loadOf 73 = .ok (.iaload, 1) := by decide +kernel
theorem dX12_loadOf_74 : decode cX12_loadOf 74 = .ok (.tableswitch 56 1 5 #[34, 38, 56, 34, 42], 34) := by decide +kernel
theorem dX12_loadOf_108 : decode cX12_loadOf 108 = .ok (.iload_n 2, 1) := by decide +kernel
theorem dX12_loadOf_109 : decode cX12_loadOf 109 = .ok (.iconst 2, 1) := by decide +kernel
theorem dX12_loadOf_110 : decode cX12_loadOf 110 = .ok (.idiv, 1) := by decide +kernel
theorem dX12_loadOf_111 : decode cX12_loadOf 111 = .ok (.ireturn, 1) := by decide +kernel
theorem dX12_loadOf_112 : decode cX12_loadOf 112 = .ok (.iconst 2, 1) := by decide +kernel
theorem dX12_loadOf_113 : decode cX12_loadOf 113 = .ok (.iload_n 2, 1) := by decide +kernel
theorem dX12_loadOf_114 : decode cX12_loadOf 114 = .ok (.imul, 1) := by decide +kernel
theorem dX12_loadOf_115 : decode cX12_loadOf 115 = .ok (.ireturn, 1) := by decide +kernel
theorem dX12_loadOf_116 : decode cX12_loadOf 116 = .ok (.iload_n 2, 1) := by decide +kernel
theorem dX12_loadOf_117 : decode cX12_loadOf 117 = .ok (.ifCond .le 11, 3) := by decide +kernel
theorem dX12_loadOf_120 : decode cX12_loadOf 120 = .ok (.iconst 2, 1) := by decide +kernel
theorem dX12_loadOf_121 : decode cX12_loadOf 121 = .ok (.iload_n 2, 1) := by decide +kernel
theorem dX12_loadOf_122 : decode cX12_loadOf 122 = .ok (.imul, 1) := by decide +kernel
theorem dX12_loadOf_123 : decode cX12_loadOf 123 = .ok (.iconst 1, 1) := by decide +kernel
theorem dX12_loadOf_124 : decode cX12_loadOf 124 = .ok (.iadd, 1) := by decide +kernel
theorem dX12_loadOf_125 : decode cX12_loadOf 125 = .ok (.goto 4, 3) := by decide +kernel
theorem dX12_loadOf_128 : decode cX12_loadOf 128 = .ok (.iconst 0, 1) := by decide +kernel
theorem dX12_loadOf_129 : decode cX12_loadOf 129 = .ok (.ireturn, 1) := by decide +kernel
theorem dX12_loadOf_130 : decode cX12_loadOf 130 = .ok (.iload_n 2, 1) := by decide +kernel
theorem dX12_loadOf_131 : decode cX12_loadOf 131 = .ok (.ireturn, 1) := by decide +kernel
theorem dX12_tip_0 : decode cX12_tip 0 = .ok (.aload_n 0, 1) := by decide +kernel
theorem dX12_tip_1 : decode cX12_tip 1 = .ok (.getfield 108, 3) := by decide +kernel
theorem dX12_tip_4 : decode cX12_tip 4 = .ok (.iload_n 1, 1) := by decide +kernel
theorem dX12_tip_5 : decode cX12_tip 5 = .ok (.invokestatic 105, 3) := by decide +kernel
theorem dX12_tip_8 : decode cX12_tip 8 = .ok (.ifCond .ne 16, 3) := by decide +kernel
theorem dX12_tip_11 : decode cX12_tip 11 = .ok (.aload_n 0, 1) := by decide +kernel
theorem dX12_tip_12 : decode cX12_tip 12 = .ok (.getfield 7, 3) := by decide +kernel
theorem dX12_tip_15 : decode cX12_tip 15 = .ok (.bipush 11, 2) := by decide +kernel
theorem dX12_tip_17 : decode cX12_tip 17 = .ok (.iload_n 1, 1) := by decide +kernel
theorem dX12_tip_18 : decode cX12_tip 18 = .ok (.iadd, 1) := by decide +kernel
theorem dX12_tip_19 : decode cX12_tip 19 = .ok (.iaload, 1) := by decide +kernel
theorem dX12_tip_20 : decode cX12_tip 20 = .ok (.iconst 4, 1) := by decide +kernel
theorem dX12_tip_21 : decode cX12_tip 21 = .ok (.if_icmp .eq 7, 3) := by decide +kernel
theorem dX12_tip_24 : decode cX12_tip 24 = .ok (.iconst 1, 1) := by decide +kernel
theorem dX12_tip_25 : decode cX12_tip 25 = .ok (.goto 4, 3) := by decide +kernel
theorem dX12_tip_28 : decode cX12_tip 28 = .ok (.iconst 0, 1) := by decide +kernel
theorem dX12_tip_29 : decode cX12_tip 29 = .ok (.istore_n 3, 1) := by decide +kernel
theorem dX12_tip_30 : decode cX12_tip 30 = .ok (.aload_n 0, 1) := by decide +kernel
theorem dX12_tip_31 : decode cX12_tip 31 = .ok (.getfield 108, 3) := by decide +kernel
theorem dX12_tip_34 : decode cX12_tip 34 = .ok (.iload_n 2, 1) := by decide +kernel
theorem dX12_tip_35 : decode cX12_tip 35 = .ok (.invokestatic 105, 3) := by decide +kernel
theorem dX12_tip_38 : decode cX12_tip 38 = .ok (.ifCond .eq 16, 3) := by decide +kernel
theorem dX12_tip_41 : decode cX12_tip 41 = .ok (.aload_n 0, 1) := by decide +kernel
theorem dX12_tip_42 : decode cX12_tip 42 = .ok (.getfield 7, 3) := by decide +kernel
theorem dX12_tip_45 : decode cX12_tip 45 = .ok (.bipush 11, 2) := by decide +kernel
theorem dX12_tip_47 : decode cX12_tip 47 = .ok (.iload_n 2, 1) := by decide +kernel
theorem dX12_tip_48 : decode cX12_tip 48 = .ok (.iadd, 1) := by decide +kernel
theorem dX12_tip_49 : decode cX12_tip 49 = .ok (.iaload, 1) := by decide +kernel
theorem dX12_tip_50 : decode cX12_tip 50 = .ok (.iconst 3, 1) := by decide +kernel
theorem dX12_tip_51 : decode cX12_tip 51 = .ok (.if_icmp .eq 7, 3) := by decide +kernel
theorem dX12_tip_54 : decode cX12_tip 54 = .ok (.iconst 1, 1) := by decide +kernel
theorem dX12_tip_55 : decode cX12_tip 55 = .ok (.goto 4, 3) := by decide +kernel
theorem dX12_tip_58 : decode cX12_tip 58 = .ok (.iconst 0, 1) := by decide +kernel
theorem dX12_tip_59 : decode cX12_tip 59 = .ok (.istore 4, 2) := by decide +kernel
theorem dX12_tip_61 : decode cX12_tip 61 = .ok (.iload_n 3, 1) := by decide +kernel
theorem dX12_tip_62 : decode cX12_tip 62 = .ok (.ifCond .eq 26, 3) := by decide +kernel
theorem dX12_tip_65 : decode cX12_tip 65 = .ok (.iload 4, 2) := by decide +kernel
theorem dX12_tip_67 : decode cX12_tip 67 = .ok (.ifCond .eq 21, 3) := by decide +kernel
theorem dX12_tip_70 : decode cX12_tip 70 = .ok (.aload_n 0, 1) := by decide +kernel
theorem dX12_tip_71 : decode cX12_tip 71 = .ok (.aload_n 0, 1) := by decide +kernel
theorem dX12_tip_72 : decode cX12_tip 72 = .ok (.getfield 108, 3) := by decide +kernel
theorem dX12_tip_75 : decode cX12_tip 75 = .ok (.iconst 1, 1) := by decide +kernel
theorem dX12_tip_76 : decode cX12_tip 76 = .ok (.iload_n 1, 1) := by decide +kernel
theorem dX12_tip_77 : decode cX12_tip 77 = .ok (.ishl, 1) := by decide +kernel
theorem dX12_tip_78 : decode cX12_tip 78 = .ok (.ior, 1) := by decide +kernel
theorem dX12_tip_79 : decode cX12_tip 79 = .ok (.iconst 1, 1) := by decide +kernel
theorem dX12_tip_80 : decode cX12_tip 80 = .ok (.iload_n 2, 1) := by decide +kernel
theorem dX12_tip_81 : decode cX12_tip 81 = .ok (.ishl, 1) := by decide +kernel
theorem dX12_tip_82 : decode cX12_tip 82 = .ok (.iconst (-1), 1) := by decide +kernel
theorem dX12_tip_83 : decode cX12_tip 83 = .ok (.ixor, 1) := by decide +kernel
theorem dX12_tip_84 : decode cX12_tip 84 = .ok (.iand, 1) := by decide +kernel
theorem dX12_tip_85 : decode cX12_tip 85 = .ok (.putfield 108, 3) := by decide +kernel
theorem dX12_tip_88 : decode cX12_tip 88 = .ok (.return_, 1) := by decide +kernel
theorem dX12_tipAll_0 : decode cX12_tipAll 0 = .ok (.iconst 0, 1) := by decide +kernel
theorem dX12_tipAll_1 : decode cX12_tipAll 1 = .ok (.istore_n 1, 1) := by decide +kernel
theorem dX12_tipAll_2 : decode cX12_tipAll 2 = .ok (.iload_n 1, 1) := by decide +kernel
theorem dX12_tipAll_3 : decode cX12_tipAll 3 = .ok (.aload_n 0, 1) := by decide +kernel
theorem dX12_tipAll_4 : decode cX12_tipAll 4 = .ok (.getfield 94, 3) := by decide +kernel
theorem dX12_tipAll_7 : decode cX12_tipAll 7 = .ok (.if_icmp .ge 87, 3) := by decide +kernel
theorem dX12_tipAll_10 : decode cX12_tipAll 10 = .ok (.aload_n 0, 1) := by decide +kernel
theorem dX12_tipAll_11 : decode cX12_tipAll 11 = .ok (.aload_n 0, 1) := by decide +kernel
theorem dX12_tipAll_12 : decode cX12_tipAll 12 = .ok (.getfield 26, 3) := by decide +kernel
theorem dX12_tipAll_15 : decode cX12_tipAll 15 = .ok (.iload_n 1, 1) := by decide +kernel
theorem dX12_tipAll_16 : decode cX12_tipAll 16 = .ok (.iaload, 1) := by decide +kernel
theorem dX12_tipAll_17 : decode cX12_tipAll 17 = .ok (.invokevirtual 111, 3) := by decide +kernel
theorem dX12_tipAll_20 : decode cX12_tipAll 20 = .ok (.aload_n 0, 1) := by decide +kernel
theorem dX12_tipAll_21 : decode cX12_tipAll 21 = .ok (.aload_n 0, 1) := by decide +kernel
theorem dX12_tipAll_22 : decode cX12_tipAll 22 = .ok (.getfield 29, 3) := by decide +kernel
theorem dX12_tipAll_25 : decode cX12_tipAll 25 = .ok (.iload_n 1, 1) := by decide +kernel
theorem dX12_tipAll_26 : decode cX12_tipAll 26 = .ok (.iaload, 1) := by decide +kernel
theorem dX12_tipAll_27 : decode cX12_tipAll 27 = .ok (.invokevirtual 111, 3) := by decide +kernel
theorem dX12_tipAll_30 : decode cX12_tipAll 30 = .ok (.isub, 1) := by decide +kernel
theorem dX12_tipAll_31 : decode cX12_tipAll 31 = .ok (.istore_n 2, 1) := by decide +kernel
theorem dX12_tipAll_32 : decode cX12_tipAll 32 = .ok (.iload_n 2, 1) := by decide +kernel
theorem dX12_tipAll_33 : decode cX12_tipAll 33 = .ok (.aload_n 0, 1) := by decide +kernel
theorem dX12_tipAll_34 : decode cX12_tipAll 34 = .ok (.getfield 32, 3) := by decide +kernel
theorem dX12_tipAll_37 : decode cX12_tipAll 37 = .ok (.iload_n 1, 1) := by decide +kernel
theorem dX12_tipAll_38 : decode cX12_tipAll 38 = .ok (.iaload, 1) := by decide +kernel
theorem dX12_tipAll_39 : decode cX12_tipAll 39 = .ok (.if_icmp .le 22, 3) := by decide +kernel
theorem dX12_tipAll_42 : decode cX12_tipAll 42 = .ok (.aload_n 0, 1) := by decide +kernel
theorem dX12_tipAll_43 : decode cX12_tipAll 43 = .ok (.aload_n 0, 1) := by decide +kernel
theorem dX12_tipAll_44 : decode cX12_tipAll 44 = .ok (.getfield 26, 3) := by decide +kernel
theorem dX12_tipAll_47 : decode cX12_tipAll 47 = .ok (.iload_n 1, 1) := by decide +kernel
theorem dX12_tipAll_48 : decode cX12_tipAll 48 = .ok (.iaload, 1) := by decide +kernel
theorem dX12_tipAll_49 : decode cX12_tipAll 49 = .ok (.aload_n 0, 1) := by decide +kernel
theorem dX12_tipAll_50 : decode cX12_tipAll 50 = .ok (.getfield 29, 3) := by decide +kernel
theorem dX12_tipAll_53 : decode cX12_tipAll 53 = .ok (.iload_n 1, 1) := by decide +kernel
theorem dX12_tipAll_54 : decode cX12_tipAll 54 = .ok (.iaload, 1) := by decide +kernel
theorem dX12_tipAll_55 : decode cX12_tipAll 55 = .ok (.invokevirtual 114, 3) := by decide +kernel
theorem dX12_tipAll_58 : decode cX12_tipAll 58 = .ok (.goto 30, 3) := by decide +kernel
theorem dX12_tipAll_61 : decode cX12_tipAll 61 = .ok (.iload_n 2, 1) := by decide +kernel
theorem dX12_tipAll_62 : decode cX12_tipAll 62 = .ok (.ineg, 1) := by decide +kernel
theorem dX12_tipAll_63 : decode cX12_tipAll 63 = .ok (.aload_n 0, 1) := by decide +kernel
theorem dX12_tipAll_64 : decode cX12_tipAll 64 = .ok (.getfield 32, 3) := by decide +kernel
theorem dX12_tipAll_67 : decode cX12_tipAll 67 = .ok (.iload_n 1, 1) := by decide +kernel
theorem dX12_tipAll_68 : decode cX12_tipAll 68 = .ok (.iaload, 1) := by decide +kernel
theorem dX12_tipAll_69 : decode cX12_tipAll 69 = .ok (.if_icmp .le 19, 3) := by decide +kernel
theorem dX12_tipAll_72 : decode cX12_tipAll 72 = .ok (.aload_n 0, 1) := by decide +kernel
theorem dX12_tipAll_73 : decode cX12_tipAll 73 = .ok (.aload_n 0, 1) := by decide +kernel
theorem dX12_tipAll_74 : decode cX12_tipAll 74 = .ok (.getfield 29, 3) := by decide +kernel
theorem dX12_tipAll_77 : decode cX12_tipAll 77 = .ok (.iload_n 1, 1) := by decide +kernel
theorem dX12_tipAll_78 : decode cX12_tipAll 78 = .ok (.iaload, 1) := by decide +kernel
theorem dX12_tipAll_79 : decode cX12_tipAll 79 = .ok (.aload_n 0, 1) := by decide +kernel
theorem dX12_tipAll_80 : decode cX12_tipAll 80 = .ok (.getfield 26, 3) := by decide +kernel
theorem dX12_tipAll_83 : decode cX12_tipAll 83 = .ok (.iload_n 1, 1) := by decide +kernel
theorem dX12_tipAll_84 : decode cX12_tipAll 84 = .ok (.iaload, 1) := by decide +kernel
theorem dX12_tipAll_85 : decode cX12_tipAll 85 = .ok (.invokevirtual 114, 3) := by decide +kernel
theorem dX12_tipAll_88 : decode cX12_tipAll 88 = .ok (.iinc 1 1, 3) := by decide +kernel
theorem dX12_tipAll_91 : decode cX12_tipAll 91 = .ok (.goto (-89), 3) := by decide +kernel
theorem dX12_tipAll_94 : decode cX12_tipAll 94 = .ok (.return_, 1) := by decide +kernel
theorem dX12_isOf_0 : decode cX12_isOf 0 = .ok (.aload_n 0, 1) := by decide +kernel
theorem dX12_isOf_1 : decode cX12_isOf 1 = .ok (.getfield 7, 3) := by decide +kernel
theorem dX12_isOf_4 : decode cX12_isOf 4 = .ok (.iconst 1, 1) := by decide +kernel
theorem dX12_isOf_5 : decode cX12_isOf 5 = .ok (.iload_n 1, 1) := by decide +kernel
theorem dX12_isOf_6 : decode cX12_isOf 6 = .ok (.iadd, 1) := by decide +kernel
theorem dX12_isOf_7 : decode cX12_isOf 7 = .ok (.iaload, 1) := by decide +kernel
theorem dX12_isOf_8 : decode cX12_isOf 8 = .ok (.iload_n 2, 1) := by decide +kernel
theorem dX12_isOf_9 : decode cX12_isOf 9 = .ok (.if_icmp .eq 16, 3) := by decide +kernel
theorem dX12_isOf_12 : decode cX12_isOf 12 = .ok (.aload_n 0, 1) := by decide +kernel
theorem dX12_isOf_13 : decode cX12_isOf 13 = .ok (.getfield 7, 3) := by decide +kernel
theorem dX12_isOf_16 : decode cX12_isOf 16 = .ok (.bipush 6, 2) := by decide +kernel
theorem dX12_isOf_18 : decode cX12_isOf 18 = .ok (.iload_n 1, 1) := by decide +kernel
theorem dX12_isOf_19 : decode cX12_isOf 19 = .ok (.iadd, 1) := by decide +kernel
theorem dX12_isOf_20 : decode cX12_isOf 20 = .ok (.iaload, 1) := by decide +kernel
theorem dX12_isOf_21 : decode cX12_isOf 21 = .ok (.iload_n 2, 1) := by decide +kernel
theorem dX12_isOf_22 : decode cX12_isOf 22 = .ok (.if_icmp .ne 7, 3) := by decide +kernel
theorem dX12_isOf_25 : decode cX12_isOf 25 = .ok (.iconst 1, 1) := by decide +kernel
theorem dX12_isOf_26 : decode cX12_isOf 26 = .ok (.goto 4, 3) := by decide +kernel
theorem dX12_isOf_29 : decode cX12_isOf 29 = .ok (.iconst 0, 1) := by decide +kernel
theorem dX12_isOf_30 : decode cX12_isOf 30 = .ok (.ireturn, 1) := by decide +kernel
theorem dX12_mayStep_0 : decode cX12_mayStep 0 = .ok (.aload_n 0, 1) := by decide +kernel
theorem dX12_mayStep_1 : decode cX12_mayStep 1 = .ok (.getfield 35, 3) := by decide +kernel
theorem dX12_mayStep_4 : decode cX12_mayStep 4 = .ok (.iload_n 1, 1) := by decide +kernel
theorem dX12_mayStep_5 : decode cX12_mayStep 5 = .ok (.iaload, 1) := by decide +kernel
theorem dX12_mayStep_6 : decode cX12_mayStep 6 = .ok (.istore_n 3, 1) := by decide +kernel
theorem dX12_mayStep_7 : decode cX12_mayStep 7 = .ok (.iload_n 3, 1) := by decide +kernel
theorem dX12_mayStep_8 : decode cX12_mayStep 8 = .ok (.iconst 4, 1) := by decide +kernel
theorem dX12_mayStep_9 : decode cX12_mayStep 9 = .ok (.if_icmp .le 36, 3) := by decide +kernel
theorem dX12_mayStep_12 : decode cX12_mayStep 12 = .ok (.iload_n 2, 1) := by decide +kernel
theorem dX12_mayStep_13 : decode cX12_mayStep 13 = .ok (.iconst 5, 1) := by decide +kernel
theorem dX12_mayStep_14 : decode cX12_mayStep 14 = .ok (.if_icmp .ge 31, 3) := by decide +kernel
theorem dX12_mayStep_17 : decode cX12_mayStep 17 = .ok (.aload_n 0, 1) := by decide +kernel
theorem dX12_mayStep_18 : decode cX12_mayStep 18 = .ok (.getfield 108, 3) := by decide +kernel
theorem dX12_mayStep_21 : decode cX12_mayStep 21 = .ok (.iload_n 3, 1) := by decide +kernel
theorem dX12_mayStep_22 : decode cX12_mayStep 22 = .ok (.iconst 5, 1) := by decide +kernel
theorem dX12_mayStep_23 : decode cX12_mayStep 23 = .ok (.isub, 1) := by decide +kernel
theorem dX12_mayStep_24 : decode cX12_mayStep 24 = .ok (.invokestatic 105, 3) := by decide +kernel
theorem dX12_mayStep_27 : decode cX12_mayStep 27 = .ok (.ifCond .eq 18, 3) := by decide +kernel
theorem dX12_mayStep_30 : decode cX12_mayStep 30 = .ok (.aload_n 0, 1) := by decide +kernel
theorem dX12_mayStep_31 : decode cX12_mayStep 31 = .ok (.iload_n 3, 1) := by decide +kernel
theorem dX12_mayStep_32 : decode cX12_mayStep 32 = .ok (.iconst 5, 1) := by decide +kernel
theorem dX12_mayStep_33 : decode cX12_mayStep 33 = .ok (.isub, 1) := by decide +kernel
theorem dX12_mayStep_34 : decode cX12_mayStep 34 = .ok (.iload_n 2, 1) := by decide +kernel
theorem dX12_mayStep_35 : decode cX12_mayStep 35 = .ok (.invokevirtual 118, 3) := by decide +kernel
theorem dX12_mayStep_38 : decode cX12_mayStep 38 = .ok (.ifCond .eq 7, 3) := by decide +kernel
theorem dX12_mayStep_41 : decode cX12_mayStep 41 = .ok (.iconst 1, 1) := by decide +kernel
theorem dX12_mayStep_42 : decode cX12_mayStep 42 = .ok (.goto 4, 3) := by decide +kernel
theorem dX12_mayStep_45 : decode cX12_mayStep 45 = .ok (.iconst 0, 1) := by decide +kernel
theorem dX12_mayStep_46 : decode cX12_mayStep 46 = .ok (.istore 4, 2) := by decide +kernel
theorem dX12_mayStep_48 : decode cX12_mayStep 48 = .ok (.iload_n 3, 1) := by decide +kernel
theorem dX12_mayStep_49 : decode cX12_mayStep 49 = .ok (.iconst 5, 1) := by decide +kernel
theorem dX12_mayStep_50 : decode cX12_mayStep 50 = .ok (.if_icmp .ge 48, 3) := by decide +kernel
theorem dX12_mayStep_53 : decode cX12_mayStep 53 = .ok (.iload_n 2, 1) := by decide +kernel
theorem dX12_mayStep_54 : decode cX12_mayStep 54 = .ok (.iconst 4, 1) := by decide +kernel
theorem dX12_mayStep_55 : decode cX12_mayStep 55 = .ok (.if_icmp .le 43, 3) := by decide +kernel
theorem dX12_mayStep_58 : decode cX12_mayStep 58 = .ok (.iload_n 2, 1) := by decide +kernel
theorem dX12_mayStep_59 : decode cX12_mayStep 59 = .ok (.iconst 5, 1) := by decide +kernel
theorem dX12_mayStep_60 : decode cX12_mayStep 60 = .ok (.isub, 1) := by decide +kernel
theorem dX12_mayStep_61 : decode cX12_mayStep 61 = .ok (.aload_n 0, 1) := by decide +kernel
theorem dX12_mayStep_62 : decode cX12_mayStep 62 = .ok (.getfield 7, 3) := by decide +kernel
theorem dX12_mayStep_65 : decode cX12_mayStep 65 = .ok (.iconst 0, 1) := by decide +kernel
theorem dX12_mayStep_66 : decode cX12_mayStep 66 = .ok (.iaload, 1) := by decide +kernel
theorem dX12_mayStep_67 : decode cX12_mayStep 67 = .ok (.if_icmp .ge 31, 3) := by decide +kernel
theorem dX12_mayStep_70 : decode cX12_mayStep 70 = .ok (.aload_n 0, 1) := by decide +kernel
theorem dX12_mayStep_71 : decode cX12_mayStep 71 = .ok (.getfield 108, 3) := by decide +kernel
theorem dX12_mayStep_74 : decode cX12_mayStep 74 = .ok (.iload_n 2, 1) := by decide +kernel
theorem dX12_mayStep_75 : decode cX12_mayStep 75 = .ok (.iconst 5, 1) := by decide +kernel
theorem dX12_mayStep_76 : decode cX12_mayStep 76 = .ok (.isub, 1) := by decide +kernel
theorem dX12_mayStep_77 : decode cX12_mayStep 77 = .ok (.invokestatic 105, 3) := by decide +kernel
theorem dX12_mayStep_80 : decode cX12_mayStep 80 = .ok (.ifCond .eq 18, 3) := by decide +kernel
theorem dX12_mayStep_83 : decode cX12_mayStep 83 = .ok (.aload_n 0, 1) := by decide +kernel
theorem dX12_mayStep_84 : decode cX12_mayStep 84 = .ok (.iload_n 2, 1) := by decide +kernel
theorem dX12_mayStep_85 : decode cX12_mayStep 85 = .ok (.iconst 5, 1) := by decide +kernel
theorem dX12_mayStep_86 : decode cX12_mayStep 86 = .ok (.isub, 1) := by decide +kernel
theorem dX12_mayStep_87 : decode cX12_mayStep 87 = .ok (.iload_n 3, 1) := by decide +kernel
theorem dX12_mayStep_88 : decode cX12_mayStep 88 = .ok (.invokevirtual 118, 3) := by decide +kernel
theorem dX12_mayStep_91 : decode cX12_mayStep 91 = .ok (.ifCond .eq 7, 3) := by decide +kernel
theorem dX12_mayStep_94 : decode cX12_mayStep 94 = .ok (.iconst 1, 1) := by decide +kernel
theorem dX12_mayStep_95 : decode cX12_mayStep 95 = .ok (.goto 4, 3) := by decide +kernel
theorem dX12_mayStep_98 : decode cX12_mayStep 98 = .ok (.iconst 0, 1) := by decide +kernel
theorem dX12_mayStep_99 : decode cX12_mayStep 99 = .ok (.istore 5, 2) := by decide +kernel
theorem dX12_mayStep_101 : decode cX12_mayStep 101 = .ok (.aload_n 0, 1) := by decide +kernel
theorem dX12_mayStep_102 : decode cX12_mayStep 102 = .ok (.getfield 102, 3) := by decide +kernel
theorem dX12_mayStep_105 : decode cX12_mayStep 105 = .ok (.iload_n 1, 1) := by decide +kernel
theorem dX12_mayStep_106 : decode cX12_mayStep 106 = .ok (.invokestatic 105, 3) := by decide +kernel
theorem dX12_mayStep_109 : decode cX12_mayStep 109 = .ok (.ifCond .eq 17, 3) := by decide +kernel
theorem dX12_mayStep_112 : decode cX12_mayStep 112 = .ok (.iload 4, 2) := by decide +kernel
theorem dX12_mayStep_114 : decode cX12_mayStep 114 = .ok (.ifCond .ne 8, 3) := by decide +kernel
theorem dX12_mayStep_117 : decode cX12_mayStep 117 = .ok (.iload 5, 2) := by decide +kernel
theorem dX12_mayStep_119 : decode cX12_mayStep 119 = .ok (.ifCond .eq 7, 3) := by decide +kernel
theorem dX12_mayStep_122 : decode cX12_mayStep 122 = .ok (.iconst 1, 1) := by decide +kernel
theorem dX12_mayStep_123 : decode cX12_mayStep 123 = .ok (.goto 4, 3) := by decide +kernel
theorem dX12_mayStep_126 : decode cX12_mayStep 126 = .ok (.iconst 0, 1) := by decide +kernel
theorem dX12_mayStep_127 : decode cX12_mayStep 127 = .ok (.ireturn, 1) := by decide +kernel
theorem dX12_asNow_0 : decode cX12_asNow 0 = .ok (.aload_n 0, 1) := by decide +kernel
theorem dX12_asNow_1 : decode cX12_asNow 1 = .ok (.aload_n 0, 1) := by decide +kernel
theorem dX12_asNow_2 : decode cX12_asNow 2 = .ok (.getfield 7, 3) := by decide +kernel
theorem dX12_asNow_5 : decode cX12_asNow 5 = .ok (.bipush 21, 2) := by decide +kernel
theorem dX12_asNow_7 : decode cX12_asNow 7 = .ok (.iaload, 1) := by decide +kernel
theorem dX12_asNow_8 : decode cX12_asNow 8 = .ok (.putfield 108, 3) := by decide +kernel
theorem dX12_asNow_11 : decode cX12_asNow 11 = .ok (.iconst 0, 1) := by decide +kernel
theorem dX12_asNow_12 : decode cX12_asNow 12 = .ok (.istore_n 1, 1) := by decide +kernel
theorem dX12_asNow_13 : decode cX12_asNow 13 = .ok (.iload_n 1, 1) := by decide +kernel
theorem dX12_asNow_14 : decode cX12_asNow 14 = .ok (.iconst 3, 1) := by decide +kernel
theorem dX12_asNow_15 : decode cX12_asNow 15 = .ok (.if_icmp .ge 50, 3) := by decide +kernel
theorem dX12_asNow_18 : decode cX12_asNow 18 = .ok (.aload_n 0, 1) := by decide +kernel
theorem dX12_asNow_19 : decode cX12_asNow 19 = .ok (.getfield 35, 3) := by decide +kernel
theorem dX12_asNow_22 : decode cX12_asNow 22 = .ok (.iload_n 1, 1) := by decide +kernel
theorem dX12_asNow_23 : decode cX12_asNow 23 = .ok (.iload_n 1, 1) := by decide +kernel
theorem dX12_asNow_24 : decode cX12_asNow 24 = .ok (.aload_n 0, 1) := by decide +kernel
theorem dX12_asNow_25 : decode cX12_asNow 25 = .ok (.getfield 7, 3) := by decide +kernel
theorem dX12_asNow_28 : decode cX12_asNow 28 = .ok (.bipush 29, 2) := by decide +kernel
theorem dX12_asNow_30 : decode cX12_asNow 30 = .ok (.iaload, 1) := by decide +kernel
theorem dX12_asNow_31 : decode cX12_asNow 31 = .ok (.if_icmp .ge 26, 3) := by decide +kernel
theorem dX12_asNow_34 : decode cX12_asNow 34 = .ok (.aload_n 0, 1) := by decide +kernel
theorem dX12_asNow_35 : decode cX12_asNow 35 = .ok (.getfield 102, 3) := by decide +kernel
theorem dX12_asNow_38 : decode cX12_asNow 38 = .ok (.iload_n 1, 1) := by decide +kernel
theorem dX12_asNow_39 : decode cX12_asNow 39 = .ok (.invokestatic 105, 3) := by decide +kernel
theorem dX12_asNow_42 : decode cX12_asNow 42 = .ok (.ifCond .eq 15, 3) := by decide +kernel
theorem dX12_asNow_45 : decode cX12_asNow 45 = .ok (.aload_n 0, 1) := by decide +kernel
theorem dX12_asNow_46 : decode cX12_asNow 46 = .ok (.getfield 7, 3) := by decide +kernel
theorem dX12_asNow_49 : decode cX12_asNow 49 = .ok (.bipush 33, 2) := by decide +kernel
theorem dX12_asNow_51 : decode cX12_asNow 51 = .ok (.iload_n 1, 1) := by decide +kernel
theorem dX12_asNow_52 : decode cX12_asNow 52 = .ok (.iadd, 1) := by decide +kernel
theorem dX12_asNow_53 : decode cX12_asNow 53 = .ok (.iaload, 1) := by decide +kernel
theorem dX12_asNow_54 : decode cX12_asNow 54 = .ok (.goto 4, 3) := by decide +kernel
theorem dX12_asNow_57 : decode cX12_asNow 57 = .ok (.iconst 0, 1) := by decide +kernel
theorem dX12_asNow_58 : decode cX12_asNow 58 = .ok (.iastore, 1) := by decide +kernel
theorem dX12_asNow_59 : decode cX12_asNow 59 = .ok (.iinc 1 1, 3) := by decide +kernel
theorem dX12_asNow_62 : decode cX12_asNow 62 = .ok (.goto (-49), 3) := by decide +kernel
theorem dX12_asNow_65 : decode cX12_asNow 65 = .ok (.return_, 1) := by decide +kernel
theorem dX12_codeNow_0 : decode cX12_codeNow 0 = .ok (.aload_n 0, 1) := by decide +kernel
theorem dX12_codeNow_1 : decode cX12_codeNow 1 = .ok (.getfield 108, 3) := by decide +kernel
theorem dX12_codeNow_4 : decode cX12_codeNow 4 = .ok (.bipush 32, 2) := by decide +kernel
theorem dX12_codeNow_6 : decode cX12_codeNow 6 = .ok (.aload_n 0, 1) := by decide +kernel
theorem dX12_codeNow_7 : decode cX12_codeNow 7 = .ok (.getfield 35, 3) := by decide +kernel
theorem dX12_codeNow_10 : decode cX12_codeNow 10 = .ok (.iconst 0, 1) := by decide +kernel
theorem dX12_codeNow_11 : decode cX12_codeNow 11 = .ok (.iaload, 1) := by decide +kernel
theorem dX12_codeNow_12 : decode cX12_codeNow 12 = .ok (.bipush 10, 2) := by decide +kernel
theorem dX12_codeNow_14 : decode cX12_codeNow 14 = .ok (.aload_n 0, 1) := by decide +kernel
theorem dX12_codeNow_15 : decode cX12_codeNow 15 = .ok (.getfield 35, 3) := by decide +kernel
theorem dX12_codeNow_18 : decode cX12_codeNow 18 = .ok (.iconst 1, 1) := by decide +kernel
theorem dX12_codeNow_19 : decode cX12_codeNow 19 = .ok (.iaload, 1) := by decide +kernel
theorem dX12_codeNow_20 : decode cX12_codeNow 20 = .ok (.imul, 1) := by decide +kernel
theorem dX12_codeNow_21 : decode cX12_codeNow 21 = .ok (.iadd, 1) := by decide +kernel
theorem dX12_codeNow_22 : decode cX12_codeNow 22 = .ok (.bipush 100, 2) := by decide +kernel
theorem dX12_codeNow_24 : decode cX12_codeNow 24 = .ok (.aload_n 0, 1) := by decide +kernel
theorem dX12_codeNow_25 : decode cX12_codeNow 25 = .ok (.getfield 35, 3) := by decide +kernel
theorem dX12_codeNow_28 : decode cX12_codeNow 28 = .ok (.iconst 2, 1) := by decide +kernel
theorem dX12_codeNow_29 : decode cX12_codeNow 29 = .ok (.iaload, 1) := by decide +kernel
theorem dX12_codeNow_30 : decode cX12_codeNow 30 = .ok (.imul, 1) := by decide +kernel
theorem dX12_codeNow_31 : decode cX12_codeNow 31 = .ok (.iadd, 1) := by decide +kernel
theorem dX12_codeNow_32 : decode cX12_codeNow 32 = .ok (.imul, 1) := by decide +kernel
theorem dX12_codeNow_33 : decode cX12_codeNow 33 = .ok (.iadd, 1) := by decide +kernel
theorem dX12_codeNow_34 : decode cX12_codeNow 34 = .ok (.ireturn, 1) := by decide +kernel
theorem dX12_decode_0 : decode cX12_decode 0 = .ok (.aload_n 0, 1) := by decide +kernel
theorem dX12_decode_1 : decode cX12_decode 1 = .ok (.iload_n 1, 1) := by decide +kernel
theorem dX12_decode_2 : decode cX12_decode 2 = .ok (.bipush 31, 2) := by decide +kernel
theorem dX12_decode_4 : decode cX12_decode 4 = .ok (.iand, 1) := by decide +kernel
theorem dX12_decode_5 : decode cX12_decode 5 = .ok (.putfield 108, 3) := by decide +kernel
theorem dX12_decode_8 : decode cX12_decode 8 = .ok (.aload_n 0, 1) := by decide +kernel
theorem dX12_decode_9 : decode cX12_decode 9 = .ok (.getfield 35, 3) := by decide +kernel
theorem dX12_decode_12 : decode cX12_decode 12 = .ok (.iconst 0, 1) := by decide +kernel
theorem dX12_decode_13 : decode cX12_decode 13 = .ok (.iload_n 1, 1) := by decide +kernel
theorem dX12_decode_14 : decode cX12_decode 14 = .ok (.bipush 32, 2) := by decide +kernel
theorem dX12_decode_16 : decode cX12_decode 16 = .ok (.idiv, 1) := by decide +kernel
theorem dX12_decode_17 : decode cX12_decode 17 = .ok (.bipush 10, 2) := by decide +kernel
theorem dX12_decode_19 : decode cX12_decode 19 = .ok (.irem, 1) := by decide +kernel
theorem dX12_decode_20 : decode cX12_decode 20 = .ok (.iastore, 1) := by decide +kernel
theorem dX12_decode_21 : decode cX12_decode 21 = .ok (.aload_n 0, 1) := by decide +kernel
theorem dX12_decode_22 : decode cX12_decode 22 = .ok (.getfield 35, 3) := by decide +kernel
theorem dX12_decode_25 : decode cX12_decode 25 = .ok (.iconst 1, 1) := by decide +kernel
theorem dX12_decode_26 : decode cX12_decode 26 = .ok (.iload_n 1, 1) := by decide +kernel
theorem dX12_decode_27 : decode cX12_decode 27 = .ok (.sipush 320, 3) := by decide +kernel
theorem dX12_decode_30 : decode cX12_decode 30 = .ok (.idiv, 1) := by decide +kernel
theorem dX12_decode_31 : decode cX12_decode 31 = .ok (.bipush 10, 2) := by decide +kernel
theorem dX12_decode_33 : decode cX12_decode 33 = .ok (.irem, 1) := by decide +kernel
theorem dX12_decode_34 : decode cX12_decode 34 = .ok (.iastore, 1) := by decide +kernel
theorem dX12_decode_35 : decode cX12_decode 35 = .ok (.aload_n 0, 1) := by decide +kernel
theorem dX12_decode_36 : decode cX12_decode 36 = .ok (.getfield 35, 3) := by decide +kernel
theorem dX12_decode_39 : decode cX12_decode 39 = .ok (.iconst 2, 1) := by decide +kernel
theorem dX12_decode_40 : decode cX12_decode 40 = .ok (.iload_n 1, 1) := by decide +kernel
theorem dX12_decode_41 : decode cX12_decode 41 = .ok (.sipush 3200, 3) := by decide +kernel
theorem dX12_decode_44 : decode cX12_decode 44 = .ok (.idiv, 1) := by decide +kernel
theorem dX12_decode_45 : decode cX12_decode 45 = .ok (.iastore, 1) := by decide +kernel
theorem dX12_decode_46 : decode cX12_decode 46 = .ok (.return_, 1) := by decide +kernel
theorem dX12_weight_0 : decode cX12_weight 0 = .ok (.aload_n 0, 1) := by decide +kernel
theorem dX12_weight_1 : decode cX12_weight 1 = .ok (.iconst 0, 1) := by decide +kernel
theorem dX12_weight_2 : decode cX12_weight 2 = .ok (.iload_n 1, 1) := by decide +kernel
theorem dX12_weight_3 : decode cX12_weight 3 = .ok (.invokevirtual 68, 3) := by decide +kernel
theorem dX12_weight_6 : decode cX12_weight 6 = .ok (.ifCond .ne 8, 3) := by decide +kernel
theorem dX12_weight_9 : decode cX12_weight 9 = .ok (.aload_n 0, 1) := by decide +kernel
theorem dX12_weight_10 : decode cX12_weight 10 = .ok (.invokevirtual 121, 3) := by decide +kernel
theorem dX12_weight_13 : decode cX12_weight 13 = .ok (.ireturn, 1) := by decide +kernel
theorem dX12_weight_14 : decode cX12_weight 14 = .ok (.aload_n 0, 1) := by decide +kernel
theorem dX12_weight_15 : decode cX12_weight 15 = .ok (.invokevirtual 125, 3) := by decide +kernel
theorem dX12_weight_18 : decode cX12_weight 18 = .ok (.aload_n 0, 1) := by decide +kernel
theorem dX12_weight_19 : decode cX12_weight 19 = .ok (.invokevirtual 128, 3) := by decide +kernel
theorem dX12_weight_22 : decode cX12_weight 22 = .ok (.aload_n 0, 1) := by decide +kernel
theorem dX12_weight_23 : decode cX12_weight 23 = .ok (.iload_n 1, 1) := by decide +kernel
theorem dX12_weight_24 : decode cX12_weight 24 = .ok (.invokevirtual 111, 3) := by decide +kernel
theorem dX12_weight_27 : decode cX12_weight 27 = .ok (.ireturn, 1) := by decide +kernel
theorem dX12_isOne_0 : decode cX12_isOne 0 = .ok (.iload_n 1, 1) := by decide +kernel
theorem dX12_isOne_1 : decode cX12_isOne 1 = .ok (.i2l, 1) := by decide +kernel
theorem dX12_isOne_2 : decode cX12_isOne 2 = .ok (.lconst 0, 1) := by decide +kernel
theorem dX12_isOne_3 : decode cX12_isOne 3 = .ok (.aload_n 0, 1) := by decide +kernel
theorem dX12_isOne_4 : decode cX12_isOne 4 = .ok (.getfield 7, 3) := by decide +kernel
theorem dX12_isOne_7 : decode cX12_isOne 7 = .ok (.bipush 29, 2) := by decide +kernel
theorem dX12_isOne_9 : decode cX12_isOne 9 = .ok (.iaload, 1) := by decide +kernel
theorem dX12_isOne_10 : decode cX12_isOne 10 = .ok (.iconst 1, 1) := by decide +kernel
theorem dX12_isOne_11 : decode cX12_isOne 11 = .ok (.isub, 1) := by decide +kernel
theorem dX12_isOne_12 : decode cX12_isOne 12 = .ok (.i2l, 1) := by decide +kernel
theorem dX12_isOne_13 : decode cX12_isOne 13 = .ok (.invokestatic 62, 3) := by decide +kernel
theorem dX12_isOne_16 : decode cX12_isOne 16 = .ok (.ireturn, 1) := by decide +kernel
theorem dX12_where_0 : decode cX12_where 0 = .ok (.aload_n 0, 1) := by decide +kernel
theorem dX12_where_1 : decode cX12_where 1 = .ok (.iload_n 1, 1) := by decide +kernel
theorem dX12_where_2 : decode cX12_where 2 = .ok (.invokevirtual 131, 3) := by decide +kernel
theorem dX12_where_5 : decode cX12_where 5 = .ok (.ifCond .eq 15, 3) := by decide +kernel
theorem dX12_where_8 : decode cX12_where 8 = .ok (.aload_n 0, 1) := by decide +kernel
theorem dX12_where_9 : decode cX12_where 9 = .ok (.getfield 7, 3) := by decide +kernel
theorem dX12_where_12 : decode cX12_where 12 = .ok (.bipush 33, 2) := by decide +kernel
theorem dX12_where_14 : decode cX12_where 14 = .ok (.iload_n 1, 1) := by decide +kernel
theorem dX12_where_15 : decode cX12_where 15 = .ok (.iadd, 1) := by decide +kernel
theorem dX12_where_16 : decode cX12_where 16 = .ok (.iaload, 1) := by decide +kernel
theorem dX12_where_17 : decode cX12_where 17 = .ok (.goto 7, 3) := by decide +kernel
theorem dX12_where_20 : decode cX12_where 20 = .ok (.aload_n 0, 1) := by decide +kernel
theorem dX12_where_21 : decode cX12_where 21 = .ok (.invokevirtual 121, 3) := by decide +kernel
theorem dX12_where_24 : decode cX12_where 24 = .ok (.ireturn, 1) := by decide +kernel
theorem dX12_lying_0 : decode cX12_lying 0 = .ok (.aload_n 0, 1) := by decide +kernel
theorem dX12_lying_1 : decode cX12_lying 1 = .ok (.getfield 7, 3) := by decide +kernel
theorem dX12_lying_4 : decode cX12_lying 4 = .ok (.bipush 21, 2) := by decide +kernel
theorem dX12_lying_6 : decode cX12_lying 6 = .ok (.iaload, 1) := by decide +kernel
theorem dX12_lying_7 : decode cX12_lying 7 = .ok (.ireturn, 1) := by decide +kernel
theorem dX12_type_0 : decode cX12_type 0 = .ok (.iload_n 3, 1) := by decide +kernel
theorem dX12_type_1 : decode cX12_type 1 = .ok (.i2l, 1) := by decide +kernel
theorem dX12_type_2 : decode cX12_type 2 = .ok (.lconst 1, 1) := by decide +kernel
theorem dX12_type_3 : decode cX12_type 3 = .ok (.ldc2_w 135, 3) := by decide +kernel
theorem dX12_type_6 : decode cX12_type 6 = .ok (.invokestatic 62, 3) := by decide +kernel
theorem dX12_type_9 : decode cX12_type 9 = .ok (.ifCond .ne 8, 3) := by decide +kernel
theorem dX12_type_12 : decode cX12_type 12 = .ok (.aload_n 0, 1) := by decide +kernel
theorem dX12_type_13 : decode cX12_type 13 = .ok (.invokevirtual 121, 3) := by decide +kernel
theorem dX12_type_16 : decode cX12_type 16 = .ok (.ireturn, 1) := by decide +kernel
theorem dX12_type_17 : decode cX12_type 17 = .ok (.aload_n 0, 1) := by decide +kernel
theorem dX12_type_18 : decode cX12_type 18 = .ok (.getfield 137, 3) := by decide +kernel
theorem dX12_type_21 : decode cX12_type 21 = .ok (.iload_n 3, 1) := by decide +kernel
theorem dX12_type_22 : decode cX12_type 22 = .ok (.iadd, 1) := by decide +kernel
theorem dX12_type_23 : decode cX12_type 23 = .ok (.sipush 200, 3) := by decide +kernel
theorem dX12_type_26 : decode cX12_type 26 = .ok (.if_icmp .le 10, 3) := by decide +kernel
theorem dX12_type_29 : decode cX12_type 29 = .ok (.aload_n 0, 1) := by decide +kernel
theorem dX12_type_30 : decode cX12_type 30 = .ok (.bipush (-4), 2) := by decide +kernel
theorem dX12_type_32 : decode cX12_type 32 = .ok (.invokevirtual 56, 3) := by decide +kernel
theorem dX12_type_35 : decode cX12_type 35 = .ok (.ireturn, 1) := by decide +kernel
theorem dX12_type_36 : decode cX12_type 36 = .ok (.iload_n 3, 1) := by decide +kernel
theorem dX12_type_37 : decode cX12_type 37 = .ok (.iconst 1, 1) := by decide +kernel
theorem dX12_type_38 : decode cX12_type 38 = .ok (.isub, 1) := by decide +kernel
theorem dX12_type_39 : decode cX12_type 39 = .ok (.istore 4, 2) := by decide +kernel
theorem dX12_type_41 : decode cX12_type 41 = .ok (.iload 4, 2) := by decide +kernel
theorem dX12_type_43 : decode cX12_type 43 = .ok (.ifCond .lt 40, 3) := by decide +kernel
theorem dX12_type_46 : decode cX12_type 46 = .ok (.aload_n 0, 1) := by decide +kernel
theorem dX12_type_47 : decode cX12_type 47 = .ok (.getfield 17, 3) := by decide +kernel
theorem dX12_type_50 : decode cX12_type 50 = .ok (.aload_n 0, 1) := by decide +kernel
theorem dX12_type_51 : decode cX12_type 51 = .ok (.getfield 137, 3) := by decide +kernel
theorem dX12_type_54 : decode cX12_type 54 = .ok (.lload_n 1, 1) := by decide +kernel
theorem dX12_type_55 : decode cX12_type 55 = .ok (.bipush 8, 2) := by decide +kernel
theorem dX12_type_57 : decode cX12_type 57 = .ok (.iload 4, 2) := by decide +kernel
theorem dX12_type_59 : decode cX12_type 59 = .ok (.imul, 1) := by decide +kernel
theorem dX12_type_60 : decode cX12_type 60 = .ok (.lshr, 1) := by decide +kernel
theorem dX12_type_61 : decode cX12_type 61 = .ok (.ldc2_w 140, 3) := by decide +kernel
theorem dX12_type_64 : decode cX12_type 64 = .ok (.land, 1) := by decide +kernel
theorem dX12_type_65 : decode cX12_type 65 = .ok (.l2i, 1) := by decide +kernel
theorem dX12_type_66 : decode cX12_type 66 = .ok (.iastore, 1) := by decide +kernel
theorem dX12_type_67 : decode cX12_type 67 = .ok (.aload_n 0, 1) := by decide +kernel
theorem dX12_type_68 : decode cX12_type 68 = .ok (.dup, 1) := by decide +kernel
theorem dX12_type_69 : decode cX12_type 69 = .ok (.getfield 137, 3) := by decide +kernel
theorem dX12_type_72 : decode cX12_type 72 = .ok (.iconst 1, 1) := by decide +kernel
theorem dX12_type_73 : decode cX12_type 73 = .ok (.iadd, 1) := by decide +kernel
theorem dX12_type_74 : decode cX12_type 74 = .ok (.putfield 137, 3) := by decide +kernel
theorem dX12_type_77 : decode cX12_type 77 = .ok (.iinc 4 (-1), 3) := by decide +kernel
theorem dX12_type_80 : decode cX12_type 80 = .ok (.goto (-39), 3) := by decide +kernel
theorem dX12_type_83 : decode cX12_type 83 = .ok (.aload_n 0, 1) := by decide +kernel
theorem dX12_type_84 : decode cX12_type 84 = .ok (.getfield 137, 3) := by decide +kernel
theorem dX12_type_87 : decode cX12_type 87 = .ok (.ireturn, 1) := by decide +kernel
theorem dX12_clear_0 : decode cX12_clear 0 = .ok (.aload_n 0, 1) := by decide +kernel
theorem dX12_clear_1 : decode cX12_clear 1 = .ok (.getfield 137, 3) := by decide +kernel
theorem dX12_clear_4 : decode cX12_clear 4 = .ok (.istore_n 1, 1) := by decide +kernel
theorem dX12_clear_5 : decode cX12_clear 5 = .ok (.aload_n 0, 1) := by decide +kernel
theorem dX12_clear_6 : decode cX12_clear 6 = .ok (.iconst 0, 1) := by decide +kernel
theorem dX12_clear_7 : decode cX12_clear 7 = .ok (.putfield 137, 3) := by decide +kernel
theorem dX12_clear_10 : decode cX12_clear 10 = .ok (.iload_n 1, 1) := by decide +kernel
theorem dX12_clear_11 : decode cX12_clear 11 = .ok (.ireturn, 1) := by decide +kernel
theorem dX12_isEnd_0 : decode cX12_isEnd 0 = .ok (.aload_n 0, 1) := by decide +kernel
theorem dX12_isEnd_1 : decode cX12_isEnd 1 = .ok (.getfield 142, 3) := by decide +kernel
theorem dX12_isEnd_4 : decode cX12_isEnd 4 = .ok (.aload_n 0, 1) := by decide +kernel
theorem dX12_isEnd_5 : decode cX12_isEnd 5 = .ok (.getfield 137, 3) := by decide +kernel
theorem dX12_isEnd_8 : decode cX12_isEnd 8 = .ok (.if_icmp .ge 30, 3) := by decide +kernel
theorem dX12_isEnd_11 : decode cX12_isEnd 11 = .ok (.aload_n 0, 1) := by decide +kernel
theorem dX12_isEnd_12 : decode cX12_isEnd 12 = .ok (.getfield 17, 3) := by decide +kernel
theorem dX12_isEnd_15 : decode cX12_isEnd 15 = .ok (.aload_n 0, 1) := by decide +kernel
theorem dX12_isEnd_16 : decode cX12_isEnd 16 = .ok (.getfield 142, 3) := by decide +kernel
theorem dX12_isEnd_19 : decode cX12_isEnd 19 = .ok (.iaload, 1) := by decide +kernel
theorem dX12_isEnd_20 : decode cX12_isEnd 20 = .ok (.bipush 32, 2) := by decide +kernel
theorem dX12_isEnd_22 : decode cX12_isEnd 22 = .ok (.if_icmp .ne 16, 3) := by decide +kernel
theorem dX12_isEnd_25 : decode cX12_isEnd 25 = .ok (.aload_n 0, 1) := by decide +kernel
theorem dX12_isEnd_26 : decode cX12_isEnd 26 = .ok (.dup, 1) := by decide +kernel
theorem dX12_isEnd_27 : decode cX12_isEnd 27 = .ok (.getfield 142, 3) := by decide +kernel
theorem dX12_isEnd_30 : decode cX12_isEnd 30 = .ok (.iconst 1, 1) := by decide +kernel
theorem dX12_isEnd_31 : decode cX12_isEnd 31 = .ok (.iadd, 1) := by decide +kernel
theorem dX12_isEnd_32 : decode cX12_isEnd 32 = .ok (.putfield 142, 3) := by decide +kernel
theorem dX12_isEnd_35 : decode cX12_isEnd 35 = .ok (.goto (-35), 3) := by decide +kernel
theorem dX12_isEnd_38 : decode cX12_isEnd 38 = .ok (.aload_n 0, 1) := by decide +kernel
theorem dX12_isEnd_39 : decode cX12_isEnd 39 = .ok (.getfield 142, 3) := by decide +kernel
theorem dX12_isEnd_42 : decode cX12_isEnd 42 = .ok (.aload_n 0, 1) := by decide +kernel
theorem dX12_isEnd_43 : decode cX12_isEnd 43 = .ok (.getfield 137, 3) := by decide +kernel
theorem dX12_isEnd_46 : decode cX12_isEnd 46 = .ok (.if_icmp .ne 7, 3) := by decide +kernel
theorem dX12_isEnd_49 : decode cX12_isEnd 49 = .ok (.iconst 1, 1) := by decide +kernel
theorem dX12_isEnd_50 : decode cX12_isEnd 50 = .ok (.goto 4, 3) := by decide +kernel
theorem dX12_isEnd_53 : decode cX12_isEnd 53 = .ok (.iconst 0, 1) := by decide +kernel
theorem dX12_isEnd_54 : decode cX12_isEnd 54 = .ok (.ireturn, 1) := by decide +kernel
theorem dX12_wordOf_0 : decode cX12_wordOf 0 = .ok (.lload_n 0, 1) := by decide +kernel
theorem dX12_wordOf_1 : decode cX12_wordOf 1 = .ok (.ldc2_w 145, 3) := by decide +kernel
theorem dX12_wordOf_4 : decode cX12_wordOf 4 = .ok (.lcmp, 1) := by decide +kernel
theorem dX12_wordOf_5 : decode cX12_wordOf 5 = .ok (.ifCond .ne 7, 3) := by decide +kernel
theorem dX12_wordOf_8 : decode cX12_wordOf 8 = .ok (.iconst 0, 1) := by decide +kernel
theorem dX12_wordOf_9 : decode cX12_wordOf 9 = .ok (.goto 52, 3) := by decide +kernel
theorem dX12_wordOf_12 : decode cX12_wordOf 12 = .ok (.lload_n 0, 1) := by decide +kernel
theorem dX12_wordOf_13 : decode cX12_wordOf 13 = .ok (.ldc2_w 147, 3) := by decide +kernel
theorem dX12_wordOf_16 : decode cX12_wordOf 16 = .ok (.lcmp, 1) := by decide +kernel
theorem dX12_wordOf_17 : decode cX12_wordOf 17 = .ok (.ifCond .ne 7, 3) := by decide +kernel
theorem dX12_wordOf_20 : decode cX12_wordOf 20 = .ok (.iconst 1, 1) := by decide +kernel
theorem dX12_wordOf_21 : decode cX12_wordOf 21 = .ok (.goto 40, 3) := by decide +kernel
theorem dX12_wordOf_24 : decode cX12_wordOf 24 = .ok (.lload_n 0, 1) := by decide +kernel
theorem dX12_wordOf_25 : decode cX12_wordOf 25 = .ok (.ldc2_w 149, 3) := by decide +kernel
theorem dX12_wordOf_28 : decode cX12_wordOf 28 = .ok (.lcmp, 1) := by decide +kernel
theorem dX12_wordOf_29 : decode cX12_wordOf 29 = .ok (.ifCond .ne 7, 3) := by decide +kernel
theorem dX12_wordOf_32 : decode cX12_wordOf 32 = .ok (.iconst 2, 1) := by decide +kernel
theorem dX12_wordOf_33 : decode cX12_wordOf 33 = .ok (.goto 28, 3) := by decide +kernel
theorem dX12_wordOf_36 : decode cX12_wordOf 36 = .ok (.lload_n 0, 1) := by decide +kernel
theorem dX12_wordOf_37 : decode cX12_wordOf 37 = .ok (.ldc2_w 151, 3) := by decide +kernel
theorem dX12_wordOf_40 : decode cX12_wordOf 40 = .ok (.lcmp, 1) := by decide +kernel
theorem dX12_wordOf_41 : decode cX12_wordOf 41 = .ok (.ifCond .ne 7, 3) := by decide +kernel
theorem dX12_wordOf_44 : decode cX12_wordOf 44 = .ok (.iconst 3, 1) := by decide +kernel
theorem dX12_wordOf_45 : decode cX12_wordOf 45 = .ok (.goto 16, 3) := by decide +kernel
theorem dX12_wordOf_48 : decode cX12_wordOf 48 = .ok (.lload_n 0, 1) := by decide +kernel
theorem dX12_wordOf_49 : decode cX12_wordOf 49 = .ok (.ldc2_w 153, 3) := by decide +kernel
theorem dX12_wordOf_52 : decode cX12_wordOf 52 = .ok (.lcmp, 1) := by decide +kernel
theorem dX12_wordOf_53 : decode cX12_wordOf 53 = .ok (.ifCond .ne 7, 3) := by decide +kernel
theorem dX12_wordOf_56 : decode cX12_wordOf 56 = .ok (.iconst 4, 1) := by decide +kernel
theorem dX12_wordOf_57 : decode cX12_wordOf 57 = .ok (.goto 4, 3) := by decide +kernel
theorem dX12_wordOf_60 : decode cX12_wordOf 60 = .ok (.iconst (-1), 1) := by decide +kernel
theorem dX12_wordOf_61 : decode cX12_wordOf 61 = .ok (.ireturn, 1) := by decide +kernel
theorem dX12_takeNumber_0 : decode cX12_takeNumber 0 = .ok (.aload_n 0, 1) := by decide +kernel
theorem dX12_takeNumber_1 : decode cX12_takeNumber 1 = .ok (.invokevirtual 155, 3) := by decide +kernel
theorem dX12_takeNumber_4 : decode cX12_takeNumber 4 = .ok (.ifCond .eq 13, 3) := by decide +kernel
theorem dX12_takeNumber_7 : decode cX12_takeNumber 7 = .ok (.aload_n 0, 1) := by decide +kernel
theorem dX12_takeNumber_8 : decode cX12_takeNumber 8 = .ok (.aload_n 0, 1) := by decide +kernel
theorem dX12_takeNumber_9 : decode cX12_takeNumber 9 = .ok (.getfield 137, 3) := by decide +kernel
theorem dX12_takeNumber_12 : decode cX12_takeNumber 12 = .ok (.putfield 159, 3) := by decide +kernel
theorem dX12_takeNumber_15 : decode cX12_takeNumber 15 = .ok (.iconst (-1), 1) := by decide +kernel
theorem dX12_takeNumber_16 : decode cX12_takeNumber 16 = .ok (.ireturn, 1) := by decide +kernel
theorem dX12_takeNumber_17 : decode cX12_takeNumber 17 = .ok (.aload_n 0, 1) := by decide +kernel
theorem dX12_takeNumber_18 : decode cX12_takeNumber 18 = .ok (.getfield 142, 3) := by decide +kernel
theorem dX12_takeNumber_21 : decode cX12_takeNumber 21 = .ok (.istore_n 1, 1) := by decide +kernel
theorem dX12_takeNumber_22 : decode cX12_takeNumber 22 = .ok (.iconst 0, 1) := by decide +kernel
theorem dX12_takeNumber_23 : decode cX12_takeNumber 23 = .ok (.istore_n 2, 1) := by decide +kernel
theorem dX12_takeNumber_24 : decode cX12_takeNumber 24 = .ok (.aload_n 0, 1) := by decide +kernel
theorem dX12_takeNumber_25 : decode cX12_takeNumber 25 = .ok (.getfield 142, 3) := by decide +kernel
theorem dX12_takeNumber_28 : decode cX12_takeNumber 28 = .ok (.aload_n 0, 1) := by decide +kernel
theorem dX12_takeNumber_29 : decode cX12_takeNumber 29 = .ok (.getfield 137, 3) := by decide +kernel
theorem dX12_takeNumber_32 : decode cX12_takeNumber 32 = .ok (.if_icmp .ge 70, 3) := by decide +kernel
theorem dX12_takeNumber_35 : decode cX12_takeNumber 35 = .ok (.aload_n 0, 1) := by decide +kernel
theorem dX12_takeNumber_36 : decode cX12_takeNumber 36 = .ok (.getfield 17, 3) := by decide +kernel
theorem dX12_takeNumber_39 : decode cX12_takeNumber 39 = .ok (.aload_n 0, 1) := by decide +kernel
theorem dX12_takeNumber_40 : decode cX12_takeNumber 40 = .ok (.getfield 142, 3) := by decide +kernel
theorem dX12_takeNumber_43 : decode cX12_takeNumber 43 = .ok (.iaload, 1) := by decide +kernel
theorem dX12_takeNumber_44 : decode cX12_takeNumber 44 = .ok (.i2l, 1) := by decide +kernel
theorem dX12_takeNumber_45 : decode cX12_takeNumber 45 = .ok (.ldc2_w 162, 3) := by decide +kernel
theorem dX12_takeNumber_48 : decode cX12_takeNumber 48 = .ok (.ldc2_w 164, 3) := by decide +kernel
theorem dX12_takeNumber_51 : decode cX12_takeNumber 51 = .ok (.invokestatic 62, 3) := by decide +kernel
theorem dX12_takeNumber_54 : decode cX12_takeNumber 54 = .ok (.ifCond .eq 48, 3) := by decide +kernel
theorem dX12_takeNumber_57 : decode cX12_takeNumber 57 = .ok (.aload_n 0, 1) := by decide +kernel
theorem dX12_takeNumber_58 : decode cX12_takeNumber 58 = .ok (.getfield 142, 3) := by decide +kernel
theorem dX12_takeNumber_61 : decode cX12_takeNumber 61 = .ok (.iload_n 1, 1) := by decide +kernel
theorem dX12_takeNumber_62 : decode cX12_takeNumber 62 = .ok (.isub, 1) := by decide +kernel
theorem dX12_takeNumber_63 : decode cX12_takeNumber 63 = .ok (.iconst 2, 1) := by decide +kernel
theorem dX12_takeNumber_64 : decode cX12_takeNumber 64 = .ok (.if_icmp .ge 23, 3) := by decide +kernel
theorem dX12_takeNumber_67 : decode cX12_takeNumber 67 = .ok (.bipush 10, 2) := by decide +kernel
theorem dX12_takeNumber_69 : decode cX12_takeNumber 69 = .ok (.iload_n 2, 1) := by decide +kernel
theorem dX12_takeNumber_70 : decode cX12_takeNumber 70 = .ok (.imul, 1) := by decide +kernel
theorem dX12_takeNumber_71 : decode cX12_takeNumber 71 = .ok (.aload_n 0, 1) := by decide +kernel
theorem dX12_takeNumber_72 : decode cX12_takeNumber 72 = .ok (.getfield 17, 3) := by decide +kernel
theorem dX12_takeNumber_75 : decode cX12_takeNumber 75 = .ok (.aload_n 0, 1) := by decide +kernel
theorem dX12_takeNumber_76 : decode cX12_takeNumber 76 = .ok (.getfield 142, 3) := by decide +kernel
theorem dX12_takeNumber_79 : decode cX12_takeNumber 79 = .ok (.iaload, 1) := by decide +kernel
theorem dX12_takeNumber_80 : decode cX12_takeNumber 80 = .ok (.iadd, 1) := by decide +kernel
theorem dX12_takeNumber_81 : decode cX12_takeNumber 81 = .ok (.bipush 48, 2) := by decide +kernel
theorem dX12_takeNumber_83 : decode cX12_takeNumber 83 = .ok (.isub, 1) := by decide +kernel
theorem dX12_takeNumber_84 : decode cX12_takeNumber 84 = .ok (.goto 4, 3) := by decide +kernel
theorem dX12_takeNumber_87 : decode cX12_takeNumber 87 = .ok (.iload_n 2, 1) := by decide +kernel
theorem dX12_takeNumber_88 : decode cX12_takeNumber 88 = .ok (.istore_n 2, 1) := by decide +kernel
theorem dX12_takeNumber_89 : decode cX12_takeNumber 89 = .ok (.aload_n 0, 1) := by decide +kernel
theorem dX12_takeNumber_90 : decode cX12_takeNumber 90 = .ok (.dup, 1) := by decide +kernel
theorem dX12_takeNumber_91 : decode cX12_takeNumber 91 = .ok (.getfield 142, 3) := by decide +kernel
theorem dX12_takeNumber_94 : decode cX12_takeNumber 94 = .ok (.iconst 1, 1) := by decide +kernel
theorem dX12_takeNumber_95 : decode cX12_takeNumber 95 = .ok (.iadd, 1) := by decide +kernel
theorem dX12_takeNumber_96 : decode cX12_takeNumber 96 = .ok (.putfield 142, 3) := by decide +kernel
theorem dX12_takeNumber_99 : decode cX12_takeNumber 99 = .ok (.goto (-75), 3) := by decide +kernel
theorem dX12_takeNumber_102 : decode cX12_takeNumber 102 = .ok (.aload_n 0, 1) := by decide +kernel
theorem dX12_takeNumber_103 : decode cX12_takeNumber 103 = .ok (.aload_n 0, 1) := by decide +kernel
theorem dX12_takeNumber_104 : decode cX12_takeNumber 104 = .ok (.getfield 142, 3) := by decide +kernel
theorem dX12_takeNumber_107 : decode cX12_takeNumber 107 = .ok (.iload_n 1, 1) := by decide +kernel
theorem dX12_takeNumber_108 : decode cX12_takeNumber 108 = .ok (.if_icmp .eq 13, 3) := by decide +kernel
theorem dX12_takeNumber_111 : decode cX12_takeNumber 111 = .ok (.aload_n 0, 1) := by decide +kernel
theorem dX12_takeNumber_112 : decode cX12_takeNumber 112 = .ok (.getfield 142, 3) := by decide +kernel
theorem dX12_takeNumber_115 : decode cX12_takeNumber 115 = .ok (.iload_n 1, 1) := by decide +kernel
theorem dX12_takeNumber_116 : decode cX12_takeNumber 116 = .ok (.isub, 1) := by decide +kernel
theorem dX12_takeNumber_117 : decode cX12_takeNumber 117 = .ok (.iconst 2, 1) := by decide +kernel
theorem dX12_takeNumber_118 : decode cX12_takeNumber 118 = .ok (.if_icmp .le 7, 3) := by decide +kernel
theorem dX12_takeNumber_121 : decode cX12_takeNumber 121 = .ok (.iload_n 1, 1) := by decide +kernel
theorem dX12_takeNumber_122 : decode cX12_takeNumber 122 = .ok (.goto 7, 3) := by decide +kernel
theorem dX12_takeNumber_125 : decode cX12_takeNumber 125 = .ok (.aload_n 0, 1) := by decide +kernel
theorem dX12_takeNumber_126 : decode cX12_takeNumber 126 = .ok (.getfield 159, 3) := by decide +kernel
theorem dX12_takeNumber_129 : decode cX12_takeNumber 129 = .ok (.putfield 159, 3) := by decide +kernel
theorem dX12_takeNumber_132 : decode cX12_takeNumber 132 = .ok (.iload_n 2, 1) := by decide +kernel
theorem dX12_takeNumber_133 : decode cX12_takeNumber 133 = .ok (.ireturn, 1) := by decide +kernel
theorem dX12_takeItem_0 : decode cX12_takeItem 0 = .ok (.aload_n 0, 1) := by decide +kernel
theorem dX12_takeItem_1 : decode cX12_takeItem 1 = .ok (.getfield 142, 3) := by decide +kernel
theorem dX12_takeItem_4 : decode cX12_takeItem 4 = .ok (.istore_n 1, 1) := by decide +kernel
theorem dX12_takeItem_5 : decode cX12_takeItem 5 = .ok (.lconst 0, 1) := by decide +kernel
theorem dX12_takeItem_6 : decode cX12_takeItem 6 = .ok (.lstore_n 2, 1) := by decide +kernel
theorem dX12_takeItem_7 : decode cX12_takeItem 7 = .ok (.aload_n 0, 1) := by decide +kernel
theorem dX12_takeItem_8 : decode cX12_takeItem 8 = .ok (.getfield 142, 3) := by decide +kernel
theorem dX12_takeItem_11 : decode cX12_takeItem 11 = .ok (.aload_n 0, 1) := by decide +kernel
theorem dX12_takeItem_12 : decode cX12_takeItem 12 = .ok (.getfield 137, 3) := by decide +kernel
theorem dX12_takeItem_15 : decode cX12_takeItem 15 = .ok (.if_icmp .ge 74, 3) := by decide +kernel
theorem dX12_takeItem_18 : decode cX12_takeItem 18 = .ok (.aload_n 0, 1) := by decide +kernel
theorem dX12_takeItem_19 : decode cX12_takeItem 19 = .ok (.getfield 17, 3) := by decide +kernel
end
section
theorem dX12_takeItem_22 : decode cX12_takeItem 22 = .ok (.aload_n 0, 1) := by decide +kernel
theorem dX12_takeItem_23 : decode cX12_takeItem 23 = .ok (.getfield 142, 3) := by decide +kernel
theorem dX12_takeItem_26 : decode cX12_takeItem 26 = .ok (.iaload, 1) := by decide +kernel
theorem dX12_takeItem_27 : decode cX12_takeItem 27 = .ok (.i2l, 1) := by decide +kernel
theorem dX12_takeItem_28 : decode cX12_takeItem 28 = .ok (.ldc2_w 166, 3) := by decide +kernel
theorem dX12_takeItem_31 : decode cX12_takeItem 31 = .ok (.ldc2_w 168, 3) := by decide +kernel
theorem dX12_takeItem_34 : decode cX12_takeItem 34 = .ok (.invokestatic 62, 3) := by decide +kernel
theorem dX12_takeItem_37 : decode cX12_takeItem 37 = .ok (.ifCond .eq 52, 3) := by decide +kernel
theorem dX12_takeItem_40 : decode cX12_takeItem 40 = .ok (.aload_n 0, 1) := by decide +kernel
theorem dX12_takeItem_41 : decode cX12_takeItem 41 = .ok (.getfield 142, 3) := by decide +kernel
theorem dX12_takeItem_44 : decode cX12_takeItem 44 = .ok (.iload_n 1, 1) := by decide +kernel
theorem dX12_takeItem_45 : decode cX12_takeItem 45 = .ok (.isub, 1) := by decide +kernel
theorem dX12_takeItem_46 : decode cX12_takeItem 46 = .ok (.bipush 7, 2) := by decide +kernel
theorem dX12_takeItem_48 : decode cX12_takeItem 48 = .ok (.if_icmp .ge 26, 3) := by decide +kernel
theorem dX12_takeItem_51 : decode cX12_takeItem 51 = .ok (.ldc2_w 170, 3) := by decide +kernel
theorem dX12_takeItem_54 : decode cX12_takeItem 54 = .ok (.lload_n 2, 1) := by decide +kernel
theorem dX12_takeItem_55 : decode cX12_takeItem 55 = .ok (.lmul, 1) := by decide +kernel
theorem dX12_takeItem_56 : decode cX12_takeItem 56 = .ok (.aload_n 0, 1) := by decide +kernel
theorem dX12_takeItem_57 : decode cX12_takeItem 57 = .ok (.getfield 17, 3) := by decide +kernel
theorem dX12_takeItem_60 : decode cX12_takeItem 60 = .ok (.aload_n 0, 1) := by decide +kernel
theorem dX12_takeItem_61 : decode cX12_takeItem 61 = .ok (.getfield 142, 3) := by decide +kernel
theorem dX12_takeItem_64 : decode cX12_takeItem 64 = .ok (.iaload, 1) := by decide +kernel
theorem dX12_takeItem_65 : decode cX12_takeItem 65 = .ok (.i2l, 1) := by decide +kernel
theorem dX12_takeItem_66 : decode cX12_takeItem 66 = .ok (.ladd, 1) := by decide +kernel
theorem dX12_takeItem_67 : decode cX12_takeItem 67 = .ok (.ldc2_w 172, 3) := by decide +kernel
theorem dX12_takeItem_70 : decode cX12_takeItem 70 = .ok (.lsub, 1) := by decide +kernel
theorem dX12_takeItem_71 : decode cX12_takeItem 71 = .ok (.goto 4, 3) := by decide +kernel
theorem dX12_takeItem_74 : decode cX12_takeItem 74 = .ok (.lload_n 2, 1) := by decide +kernel
theorem dX12_takeItem_75 : decode cX12_takeItem 75 = .ok (.lstore_n 2, 1) := by decide +kernel
theorem dX12_takeItem_76 : decode cX12_takeItem 76 = .ok (.aload_n 0, 1) := by decide +kernel
theorem dX12_takeItem_77 : decode cX12_takeItem 77 = .ok (.dup, 1) := by decide +kernel
theorem dX12_takeItem_78 : decode cX12_takeItem 78 = .ok (.getfield 142, 3) := by decide +kernel
theorem dX12_takeItem_81 : decode cX12_takeItem 81 = .ok (.iconst 1, 1) := by decide +kernel
theorem dX12_takeItem_82 : decode cX12_takeItem 82 = .ok (.iadd, 1) := by decide +kernel
theorem dX12_takeItem_83 : decode cX12_takeItem 83 = .ok (.putfield 142, 3) := by decide +kernel
theorem dX12_takeItem_86 : decode cX12_takeItem 86 = .ok (.goto (-79), 3) := by decide +kernel
theorem dX12_takeItem_89 : decode cX12_takeItem 89 = .ok (.lload_n 2, 1) := by decide +kernel
theorem dX12_takeItem_90 : decode cX12_takeItem 90 = .ok (.invokestatic 174, 3) := by decide +kernel
theorem dX12_takeItem_93 : decode cX12_takeItem 93 = .ok (.istore 4, 2) := by decide +kernel
theorem dX12_takeItem_95 : decode cX12_takeItem 95 = .ok (.aload_n 0, 1) := by decide +kernel
theorem dX12_takeItem_96 : decode cX12_takeItem 96 = .ok (.iload 4, 2) := by decide +kernel
theorem dX12_takeItem_98 : decode cX12_takeItem 98 = .ok (.iconst (-1), 1) := by decide +kernel
theorem dX12_takeItem_99 : decode cX12_takeItem 99 = .ok (.if_icmp .ne 7, 3) := by decide +kernel
theorem dX12_takeItem_102 : decode cX12_takeItem 102 = .ok (.iload_n 1, 1) := by decide +kernel
theorem dX12_takeItem_103 : decode cX12_takeItem 103 = .ok (.goto 7, 3) := by decide +kernel
theorem dX12_takeItem_106 : decode cX12_takeItem 106 = .ok (.aload_n 0, 1) := by decide +kernel
theorem dX12_takeItem_107 : decode cX12_takeItem 107 = .ok (.getfield 159, 3) := by decide +kernel
theorem dX12_takeItem_110 : decode cX12_takeItem 110 = .ok (.putfield 159, 3) := by decide +kernel
theorem dX12_takeItem_113 : decode cX12_takeItem 113 = .ok (.aload_n 0, 1) := by decide +kernel
theorem dX12_takeItem_114 : decode cX12_takeItem 114 = .ok (.getfield 38, 3) := by decide +kernel
theorem dX12_takeItem_117 : decode cX12_takeItem 117 = .ok (.aload_n 0, 1) := by decide +kernel
theorem dX12_takeItem_118 : decode cX12_takeItem 118 = .ok (.getfield 178, 3) := by decide +kernel
theorem dX12_takeItem_121 : decode cX12_takeItem 121 = .ok (.iload 4, 2) := by decide +kernel
theorem dX12_takeItem_123 : decode cX12_takeItem 123 = .ok (.iastore, 1) := by decide +kernel
theorem dX12_takeItem_124 : decode cX12_takeItem 124 = .ok (.iconst 0, 1) := by decide +kernel
theorem dX12_takeItem_125 : decode cX12_takeItem 125 = .ok (.istore 5, 2) := by decide +kernel
theorem dX12_takeItem_127 : decode cX12_takeItem 127 = .ok (.iload 5, 2) := by decide +kernel
theorem dX12_takeItem_129 : decode cX12_takeItem 129 = .ok (.iload 4, 2) := by decide +kernel
theorem dX12_takeItem_131 : decode cX12_takeItem 131 = .ok (.iconst 3, 1) := by decide +kernel
theorem dX12_takeItem_132 : decode cX12_takeItem 132 = .ok (.if_icmp .ge 7, 3) := by decide +kernel
theorem dX12_takeItem_135 : decode cX12_takeItem 135 = .ok (.iconst 3, 1) := by decide +kernel
theorem dX12_takeItem_136 : decode cX12_takeItem 136 = .ok (.goto 4, 3) := by decide +kernel
theorem dX12_takeItem_139 : decode cX12_takeItem 139 = .ok (.iconst 2, 1) := by decide +kernel
theorem dX12_takeItem_140 : decode cX12_takeItem 140 = .ok (.if_icmp .ge 35, 3) := by decide +kernel
theorem dX12_takeItem_143 : decode cX12_takeItem 143 = .ok (.aload_n 0, 1) := by decide +kernel
theorem dX12_takeItem_144 : decode cX12_takeItem 144 = .ok (.getfield 159, 3) := by decide +kernel
theorem dX12_takeItem_147 : decode cX12_takeItem 147 = .ok (.iconst (-1), 1) := by decide +kernel
theorem dX12_takeItem_148 : decode cX12_takeItem 148 = .ok (.if_icmp .ne 27, 3) := by decide +kernel
theorem dX12_takeItem_151 : decode cX12_takeItem 151 = .ok (.aload_n 0, 1) := by decide +kernel
theorem dX12_takeItem_152 : decode cX12_takeItem 152 = .ok (.getfield 41, 3) := by decide +kernel
theorem dX12_takeItem_155 : decode cX12_takeItem 155 = .ok (.iconst 3, 1) := by decide +kernel
theorem dX12_takeItem_156 : decode cX12_takeItem 156 = .ok (.aload_n 0, 1) := by decide +kernel
theorem dX12_takeItem_157 : decode cX12_takeItem 157 = .ok (.getfield 178, 3) := by decide +kernel
theorem dX12_takeItem_160 : decode cX12_takeItem 160 = .ok (.imul, 1) := by decide +kernel
theorem dX12_takeItem_161 : decode cX12_takeItem 161 = .ok (.iload 5, 2) := by decide +kernel
theorem dX12_takeItem_163 : decode cX12_takeItem 163 = .ok (.iadd, 1) := by decide +kernel
theorem dX12_takeItem_164 : decode cX12_takeItem 164 = .ok (.aload_n 0, 1) := by decide +kernel
theorem dX12_takeItem_165 : decode cX12_takeItem 165 = .ok (.invokevirtual 181, 3) := by decide +kernel
theorem dX12_takeItem_168 : decode cX12_takeItem 168 = .ok (.iastore, 1) := by decide +kernel
theorem dX12_takeItem_169 : decode cX12_takeItem 169 = .ok (.iinc 5 1, 3) := by decide +kernel
theorem dX12_takeItem_172 : decode cX12_takeItem 172 = .ok (.goto (-45), 3) := by decide +kernel
theorem dX12_takeItem_175 : decode cX12_takeItem 175 = .ok (.aload_n 0, 1) := by decide +kernel
theorem dX12_takeItem_176 : decode cX12_takeItem 176 = .ok (.getfield 159, 3) := by decide +kernel
theorem dX12_takeItem_179 : decode cX12_takeItem 179 = .ok (.iconst (-1), 1) := by decide +kernel
theorem dX12_takeItem_180 : decode cX12_takeItem 180 = .ok (.if_icmp .ne 32, 3) := by decide +kernel
theorem dX12_takeItem_183 : decode cX12_takeItem 183 = .ok (.aload_n 0, 1) := by decide +kernel
theorem dX12_takeItem_184 : decode cX12_takeItem 184 = .ok (.invokevirtual 155, 3) := by decide +kernel
theorem dX12_takeItem_187 : decode cX12_takeItem 187 = .ok (.ifCond .ne 17, 3) := by decide +kernel
theorem dX12_takeItem_190 : decode cX12_takeItem 190 = .ok (.aload_n 0, 1) := by decide +kernel
theorem dX12_takeItem_191 : decode cX12_takeItem 191 = .ok (.getfield 17, 3) := by decide +kernel
theorem dX12_takeItem_194 : decode cX12_takeItem 194 = .ok (.aload_n 0, 1) := by decide +kernel
theorem dX12_takeItem_195 : decode cX12_takeItem 195 = .ok (.getfield 142, 3) := by decide +kernel
theorem dX12_takeItem_198 : decode cX12_takeItem 198 = .ok (.iaload, 1) := by decide +kernel
theorem dX12_takeItem_199 : decode cX12_takeItem 199 = .ok (.bipush 59, 2) := by decide +kernel
theorem dX12_takeItem_201 : decode cX12_takeItem 201 = .ok (.if_icmp .eq 11, 3) := by decide +kernel
theorem dX12_takeItem_204 : decode cX12_takeItem 204 = .ok (.aload_n 0, 1) := by decide +kernel
theorem dX12_takeItem_205 : decode cX12_takeItem 205 = .ok (.aload_n 0, 1) := by decide +kernel
theorem dX12_takeItem_206 : decode cX12_takeItem 206 = .ok (.getfield 142, 3) := by decide +kernel
theorem dX12_takeItem_209 : decode cX12_takeItem 209 = .ok (.putfield 159, 3) := by decide +kernel
theorem dX12_takeItem_212 : decode cX12_takeItem 212 = .ok (.aload_n 0, 1) := by decide +kernel
theorem dX12_takeItem_213 : decode cX12_takeItem 213 = .ok (.dup, 1) := by decide +kernel
theorem dX12_takeItem_214 : decode cX12_takeItem 214 = .ok (.getfield 142, 3) := by decide +kernel
theorem dX12_takeItem_217 : decode cX12_takeItem 217 = .ok (.iconst 1, 1) := by decide +kernel
theorem dX12_takeItem_218 : decode cX12_takeItem 218 = .ok (.iadd, 1) := by decide +kernel
theorem dX12_takeItem_219 : decode cX12_takeItem 219 = .ok (.putfield 142, 3) := by decide +kernel
theorem dX12_takeItem_222 : decode cX12_takeItem 222 = .ok (.aload_n 0, 1) := by decide +kernel
theorem dX12_takeItem_223 : decode cX12_takeItem 223 = .ok (.dup, 1) := by decide +kernel
theorem dX12_takeItem_224 : decode cX12_takeItem 224 = .ok (.getfield 178, 3) := by decide +kernel
theorem dX12_takeItem_227 : decode cX12_takeItem 227 = .ok (.iconst 1, 1) := by decide +kernel
theorem dX12_takeItem_228 : decode cX12_takeItem 228 = .ok (.iadd, 1) := by decide +kernel
theorem dX12_takeItem_229 : decode cX12_takeItem 229 = .ok (.putfield 178, 3) := by decide +kernel
theorem dX12_takeItem_232 : decode cX12_takeItem 232 = .ok (.return_, 1) := by decide +kernel
theorem dX12_tellItem_0 : decode cX12_tellItem 0 = .ok (.aload_n 0, 1) := by decide +kernel
theorem dX12_tellItem_1 : decode cX12_tellItem 1 = .ok (.getfield 41, 3) := by decide +kernel
theorem dX12_tellItem_4 : decode cX12_tellItem 4 = .ok (.iconst 3, 1) := by decide +kernel
theorem dX12_tellItem_5 : decode cX12_tellItem 5 = .ok (.iload_n 1, 1) := by decide +kernel
theorem dX12_tellItem_6 : decode cX12_tellItem 6 = .ok (.imul, 1) := by decide +kernel
theorem dX12_tellItem_7 : decode cX12_tellItem 7 = .ok (.iaload, 1) := by decide +kernel
theorem dX12_tellItem_8 : decode cX12_tellItem 8 = .ok (.istore_n 2, 1) := by decide +kernel
theorem dX12_tellItem_9 : decode cX12_tellItem 9 = .ok (.aload_n 0, 1) := by decide +kernel
theorem dX12_tellItem_10 : decode cX12_tellItem 10 = .ok (.getfield 41, 3) := by decide +kernel
theorem dX12_tellItem_13 : decode cX12_tellItem 13 = .ok (.iconst 3, 1) := by decide +kernel
theorem dX12_tellItem_14 : decode cX12_tellItem 14 = .ok (.iload_n 1, 1) := by decide +kernel
theorem dX12_tellItem_15 : decode cX12_tellItem 15 = .ok (.imul, 1) := by decide +kernel
theorem dX12_tellItem_16 : decode cX12_tellItem 16 = .ok (.iconst 1, 1) := by decide +kernel
theorem dX12_tellItem_17 : decode cX12_tellItem 17 = .ok (.iadd, 1) := by decide +kernel
theorem dX12_tellItem_18 : decode cX12_tellItem 18 = .ok (.iaload, 1) := by decide +kernel
theorem dX12_tellItem_19 : decode cX12_tellItem 19 = .ok (.istore_n 3, 1) := by decide +kernel
theorem dX12_tellItem_20 : decode cX12_tellItem 20 = .ok (.aload_n 0, 1) := by decide +kernel
theorem dX12_tellItem_21 : decode cX12_tellItem 21 = .ok (.getfield 41, 3) := by decide +kernel
theorem dX12_tellItem_24 : decode cX12_tellItem 24 = .ok (.iconst 3, 1) := by decide +kernel
theorem dX12_tellItem_25 : decode cX12_tellItem 25 = .ok (.iload_n 1, 1) := by decide +kernel
theorem dX12_tellItem_26 : decode cX12_tellItem 26 = .ok (.imul, 1) := by decide +kernel
theorem dX12_tellItem_27 : decode cX12_tellItem 27 = .ok (.iconst 2, 1) := by decide +kernel
theorem dX12_tellItem_28 : decode cX12_tellItem 28 = .ok (.iadd, 1) := by decide +kernel
theorem dX12_tellItem_29 : decode cX12_tellItem 29 = .ok (.iaload, 1) := by decide +kernel
theorem dX12_tellItem_30 : decode cX12_tellItem 30 = .ok (.istore 4, 2) := by decide +kernel
theorem dX12_tellItem_32 : decode cX12_tellItem 32 = .ok (.aload_n 0, 1) := by decide +kernel
theorem dX12_tellItem_33 : decode cX12_tellItem 33 = .ok (.getfield 38, 3) := by decide +kernel
theorem dX12_tellItem_36 : decode cX12_tellItem 36 = .ok (.iload_n 1, 1) := by decide +kernel
theorem dX12_tellItem_37 : decode cX12_tellItem 37 = .ok (.iaload, 1) := by decide +kernel
theorem dX12_tellItem_38 : decode cX12_tellItem 38 = .ok (.tableswitch 78 0 3 #[30, 43, 56, 68], 30) := by decide +kernel
theorem dX12_tellItem_68 : decode cX12_tellItem 68 = .ok (.aload_n 0, 1) := by decide +kernel
theorem dX12_tellItem_69 : decode cX12_tellItem 69 = .ok (.sipush 330, 3) := by decide +kernel
theorem dX12_tellItem_72 : decode cX12_tellItem 72 = .ok (.iload_n 2, 1) := by decide +kernel
theorem dX12_tellItem_73 : decode cX12_tellItem 73 = .ok (.iload_n 3, 1) := by decide +kernel
theorem dX12_tellItem_74 : decode cX12_tellItem 74 = .ok (.iload 4, 2) := by decide +kernel
theorem dX12_tellItem_76 : decode cX12_tellItem 76 = .ok (.iconst 0, 1) := by decide +kernel
theorem dX12_tellItem_77 : decode cX12_tellItem 77 = .ok (.invokevirtual 79, 3) := by decide +kernel
theorem dX12_tellItem_80 : decode cX12_tellItem 80 = .ok (.ireturn, 1) := by decide +kernel
theorem dX12_tellItem_81 : decode cX12_tellItem 81 = .ok (.aload_n 0, 1) := by decide +kernel
theorem dX12_tellItem_82 : decode cX12_tellItem 82 = .ok (.sipush 330, 3) := by decide +kernel
theorem dX12_tellItem_85 : decode cX12_tellItem 85 = .ok (.iload_n 2, 1) := by decide +kernel
theorem dX12_tellItem_86 : decode cX12_tellItem 86 = .ok (.iload_n 3, 1) := by decide +kernel
theorem dX12_tellItem_87 : decode cX12_tellItem 87 = .ok (.iload 4, 2) := by decide +kernel
theorem dX12_tellItem_89 : decode cX12_tellItem 89 = .ok (.iconst 1, 1) := by decide +kernel
theorem dX12_tellItem_90 : decode cX12_tellItem 90 = .ok (.invokevirtual 79, 3) := by decide +kernel
theorem dX12_tellItem_93 : decode cX12_tellItem 93 = .ok (.ireturn, 1) := by decide +kernel
theorem dX12_tellItem_94 : decode cX12_tellItem 94 = .ok (.aload_n 0, 1) := by decide +kernel
theorem dX12_tellItem_95 : decode cX12_tellItem 95 = .ok (.sipush 330, 3) := by decide +kernel
theorem dX12_tellItem_98 : decode cX12_tellItem 98 = .ok (.iload_n 2, 1) := by decide +kernel
theorem dX12_tellItem_99 : decode cX12_tellItem 99 = .ok (.iload_n 3, 1) := by decide +kernel
theorem dX12_tellItem_100 : decode cX12_tellItem 100 = .ok (.iload 4, 2) := by decide +kernel
theorem dX12_tellItem_102 : decode cX12_tellItem 102 = .ok (.invokevirtual 83, 3) := by decide +kernel
theorem dX12_tellItem_105 : decode cX12_tellItem 105 = .ok (.ireturn, 1) := by decide +kernel
theorem dX12_tellItem_106 : decode cX12_tellItem 106 = .ok (.aload_n 0, 1) := by decide +kernel
theorem dX12_tellItem_107 : decode cX12_tellItem 107 = .ok (.sipush 330, 3) := by decide +kernel
theorem dX12_tellItem_110 : decode cX12_tellItem 110 = .ok (.iload_n 2, 1) := by decide +kernel
theorem dX12_tellItem_111 : decode cX12_tellItem 111 = .ok (.iload_n 3, 1) := by decide +kernel
theorem dX12_tellItem_112 : decode cX12_tellItem 112 = .ok (.invokevirtual 91, 3) := by decide +kernel
theorem dX12_tellItem_115 : decode cX12_tellItem 115 = .ok (.ireturn, 1) := by decide +kernel
theorem dX12_tellItem_116 : decode cX12_tellItem 116 = .ok (.aload_n 0, 1) := by decide +kernel
theorem dX12_tellItem_117 : decode cX12_tellItem 117 = .ok (.sipush 330, 3) := by decide +kernel
theorem dX12_tellItem_120 : decode cX12_tellItem 120 = .ok (.iload_n 2, 1) := by decide +kernel
theorem dX12_tellItem_121 : decode cX12_tellItem 121 = .ok (.iload_n 3, 1) := by decide +kernel
theorem dX12_tellItem_122 : decode cX12_tellItem 122 = .ok (.invokevirtual 87, 3) := by decide +kernel
theorem dX12_tellItem_125 : decode cX12_tellItem 125 = .ok (.ireturn, 1) := by decide +kernel
theorem dX12_read_0 : decode cX12_read 0 = .ok (.aload_n 0, 1) := by decide +kernel
theorem dX12_read_1 : decode cX12_read 1 = .ok (.iconst 0, 1) := by decide +kernel
theorem dX12_read_2 : decode cX12_read 2 = .ok (.putfield 142, 3) := by decide +kernel
theorem dX12_read_5 : decode cX12_read 5 = .ok (.aload_n 0, 1) := by decide +kernel
theorem dX12_read_6 : decode cX12_read 6 = .ok (.iconst 0, 1) := by decide +kernel
theorem dX12_read_7 : decode cX12_read 7 = .ok (.putfield 178, 3) := by decide +kernel
theorem dX12_read_10 : decode cX12_read 10 = .ok (.aload_n 0, 1) := by decide +kernel
theorem dX12_read_11 : decode cX12_read 11 = .ok (.iconst (-1), 1) := by decide +kernel
theorem dX12_read_12 : decode cX12_read 12 = .ok (.putfield 159, 3) := by decide +kernel
theorem dX12_read_15 : decode cX12_read 15 = .ok (.aload_n 0, 1) := by decide +kernel
theorem dX12_read_16 : decode cX12_read 16 = .ok (.getfield 159, 3) := by decide +kernel
theorem dX12_read_19 : decode cX12_read 19 = .ok (.iconst (-1), 1) := by decide +kernel
theorem dX12_read_20 : decode cX12_read 20 = .ok (.if_icmp .ne 17, 3) := by decide +kernel
theorem dX12_read_23 : decode cX12_read 23 = .ok (.aload_n 0, 1) := by decide +kernel
theorem dX12_read_24 : decode cX12_read 24 = .ok (.invokevirtual 155, 3) := by decide +kernel
theorem dX12_read_27 : decode cX12_read 27 = .ok (.ifCond .ne 10, 3) := by decide +kernel
theorem dX12_read_30 : decode cX12_read 30 = .ok (.aload_n 0, 1) := by decide +kernel
theorem dX12_read_31 : decode cX12_read 31 = .ok (.invokevirtual 184, 3) := by decide +kernel
theorem dX12_read_34 : decode cX12_read 34 = .ok (.goto (-19), 3) := by decide +kernel
theorem dX12_read_37 : decode cX12_read 37 = .ok (.aload_n 0, 1) := by decide +kernel
theorem dX12_read_38 : decode cX12_read 38 = .ok (.getfield 159, 3) := by decide +kernel
theorem dX12_read_41 : decode cX12_read 41 = .ok (.iconst (-1), 1) := by decide +kernel
theorem dX12_read_42 : decode cX12_read 42 = .ok (.if_icmp .eq 11, 3) := by decide +kernel
theorem dX12_read_45 : decode cX12_read 45 = .ok (.bipush (-10), 2) := by decide +kernel
theorem dX12_read_47 : decode cX12_read 47 = .ok (.aload_n 0, 1) := by decide +kernel
theorem dX12_read_48 : decode cX12_read 48 = .ok (.getfield 159, 3) := by decide +kernel
theorem dX12_read_51 : decode cX12_read 51 = .ok (.isub, 1) := by decide +kernel
theorem dX12_read_52 : decode cX12_read 52 = .ok (.ireturn, 1) := by decide +kernel
theorem dX12_read_53 : decode cX12_read 53 = .ok (.iconst 0, 1) := by decide +kernel
theorem dX12_read_54 : decode cX12_read 54 = .ok (.istore_n 1, 1) := by decide +kernel
theorem dX12_read_55 : decode cX12_read 55 = .ok (.iload_n 1, 1) := by decide +kernel
theorem dX12_read_56 : decode cX12_read 56 = .ok (.bipush 110, 2) := by decide +kernel
theorem dX12_read_58 : decode cX12_read 58 = .ok (.if_icmp .ge 20, 3) := by decide +kernel
theorem dX12_read_61 : decode cX12_read 61 = .ok (.aload_n 0, 1) := by decide +kernel
theorem dX12_read_62 : decode cX12_read 62 = .ok (.getfield 7, 3) := by decide +kernel
theorem dX12_read_65 : decode cX12_read 65 = .ok (.sipush 330, 3) := by decide +kernel
theorem dX12_read_68 : decode cX12_read 68 = .ok (.iload_n 1, 1) := by decide +kernel
theorem dX12_read_69 : decode cX12_read 69 = .ok (.iadd, 1) := by decide +kernel
theorem dX12_read_70 : decode cX12_read 70 = .ok (.iconst 0, 1) := by decide +kernel
theorem dX12_read_71 : decode cX12_read 71 = .ok (.iastore, 1) := by decide +kernel
theorem dX12_read_72 : decode cX12_read 72 = .ok (.iinc 1 1, 3) := by decide +kernel
theorem dX12_read_75 : decode cX12_read 75 = .ok (.goto (-20), 3) := by decide +kernel
theorem dX12_read_78 : decode cX12_read 78 = .ok (.iconst 0, 1) := by decide +kernel
theorem dX12_read_79 : decode cX12_read 79 = .ok (.istore_n 1, 1) := by decide +kernel
theorem dX12_read_80 : decode cX12_read 80 = .ok (.iload_n 1, 1) := by decide +kernel
theorem dX12_read_81 : decode cX12_read 81 = .ok (.aload_n 0, 1) := by decide +kernel
theorem dX12_read_82 : decode cX12_read 82 = .ok (.getfield 178, 3) := by decide +kernel
theorem dX12_read_85 : decode cX12_read 85 = .ok (.if_icmp .ge 23, 3) := by decide +kernel
theorem dX12_read_88 : decode cX12_read 88 = .ok (.aload_n 0, 1) := by decide +kernel
theorem dX12_read_89 : decode cX12_read 89 = .ok (.iload_n 1, 1) := by decide +kernel
theorem dX12_read_90 : decode cX12_read 90 = .ok (.invokevirtual 187, 3) := by decide +kernel
theorem dX12_read_93 : decode cX12_read 93 = .ok (.ifCond .ge 9, 3) := by decide +kernel
theorem dX12_read_96 : decode cX12_read 96 = .ok (.sipush (-1000), 3) := by decide +kernel
theorem dX12_read_99 : decode cX12_read 99 = .ok (.iload_n 1, 1) := by decide +kernel
theorem dX12_read_100 : decode cX12_read 100 = .ok (.isub, 1) := by decide +kernel
theorem dX12_read_101 : decode cX12_read 101 = .ok (.ireturn, 1) := by decide +kernel
theorem dX12_read_102 : decode cX12_read 102 = .ok (.iinc 1 1, 3) := by decide +kernel
theorem dX12_read_105 : decode cX12_read 105 = .ok (.goto (-25), 3) := by decide +kernel
theorem dX12_read_108 : decode cX12_read 108 = .ok (.aload_n 0, 1) := by decide +kernel
theorem dX12_read_109 : decode cX12_read 109 = .ok (.sipush 330, 3) := by decide +kernel
theorem dX12_read_112 : decode cX12_read 112 = .ok (.iconst 0, 1) := by decide +kernel
theorem dX12_read_113 : decode cX12_read 113 = .ok (.invokevirtual 190, 3) := by decide +kernel
theorem dX12_read_116 : decode cX12_read 116 = .ok (.aload_n 0, 1) := by decide +kernel
theorem dX12_read_117 : decode cX12_read 117 = .ok (.getfield 178, 3) := by decide +kernel
theorem dX12_read_120 : decode cX12_read 120 = .ok (.ireturn, 1) := by decide +kernel
theorem dX12_isPlace_0 : decode cX12_isPlace 0 = .ok (.iload_n 1, 1) := by decide +kernel
theorem dX12_isPlace_1 : decode cX12_isPlace 1 = .ok (.i2l, 1) := by decide +kernel
theorem dX12_isPlace_2 : decode cX12_isPlace 2 = .ok (.lconst 0, 1) := by decide +kernel
theorem dX12_isPlace_3 : decode cX12_isPlace 3 = .ok (.iconst 4, 1) := by decide +kernel
theorem dX12_isPlace_4 : decode cX12_isPlace 4 = .ok (.aload_n 0, 1) := by decide +kernel
theorem dX12_isPlace_5 : decode cX12_isPlace 5 = .ok (.getfield 7, 3) := by decide +kernel
theorem dX12_isPlace_8 : decode cX12_isPlace 8 = .ok (.iconst 0, 1) := by decide +kernel
theorem dX12_isPlace_9 : decode cX12_isPlace 9 = .ok (.iaload, 1) := by decide +kernel
theorem dX12_isPlace_10 : decode cX12_isPlace 10 = .ok (.iadd, 1) := by decide +kernel
theorem dX12_isPlace_11 : decode cX12_isPlace 11 = .ok (.i2l, 1) := by decide +kernel
theorem dX12_isPlace_12 : decode cX12_isPlace 12 = .ok (.invokestatic 62, 3) := by decide +kernel
theorem dX12_isPlace_15 : decode cX12_isPlace 15 = .ok (.ireturn, 1) := by decide +kernel
theorem dX12_step_0 : decode cX12_step 0 = .ok (.aload_n 0, 1) := by decide +kernel
theorem dX12_step_1 : decode cX12_step 1 = .ok (.iload_n 1, 1) := by decide +kernel
theorem dX12_step_2 : decode cX12_step 2 = .ok (.invokevirtual 131, 3) := by decide +kernel
theorem dX12_step_5 : decode cX12_step 5 = .ok (.ifCond .eq 11, 3) := by decide +kernel
theorem dX12_step_8 : decode cX12_step 8 = .ok (.aload_n 0, 1) := by decide +kernel
theorem dX12_step_9 : decode cX12_step 9 = .ok (.iload_n 2, 1) := by decide +kernel
theorem dX12_step_10 : decode cX12_step 10 = .ok (.invokevirtual 193, 3) := by decide +kernel
theorem dX12_step_13 : decode cX12_step 13 = .ok (.ifCond .ne 8, 3) := by decide +kernel
theorem dX12_step_16 : decode cX12_step 16 = .ok (.aload_n 0, 1) := by decide +kernel
theorem dX12_step_17 : decode cX12_step 17 = .ok (.invokevirtual 121, 3) := by decide +kernel
theorem dX12_step_20 : decode cX12_step 20 = .ok (.ireturn, 1) := by decide +kernel
theorem dX12_step_21 : decode cX12_step 21 = .ok (.aload_n 0, 1) := by decide +kernel
theorem dX12_step_22 : decode cX12_step 22 = .ok (.invokevirtual 125, 3) := by decide +kernel
theorem dX12_step_25 : decode cX12_step 25 = .ok (.aload_n 0, 1) := by decide +kernel
theorem dX12_step_26 : decode cX12_step 26 = .ok (.invokevirtual 128, 3) := by decide +kernel
theorem dX12_step_29 : decode cX12_step 29 = .ok (.aload_n 0, 1) := by decide +kernel
theorem dX12_step_30 : decode cX12_step 30 = .ok (.iload_n 1, 1) := by decide +kernel
theorem dX12_step_31 : decode cX12_step 31 = .ok (.iload_n 2, 1) := by decide +kernel
theorem dX12_step_32 : decode cX12_step 32 = .ok (.invokevirtual 196, 3) := by decide +kernel
theorem dX12_step_35 : decode cX12_step 35 = .ok (.ifCond .ne 10, 3) := by decide +kernel
theorem dX12_step_38 : decode cX12_step 38 = .ok (.aload_n 0, 1) := by decide +kernel
theorem dX12_step_39 : decode cX12_step 39 = .ok (.bipush (-3), 2) := by decide +kernel
theorem dX12_step_41 : decode cX12_step 41 = .ok (.invokevirtual 56, 3) := by decide +kernel
theorem dX12_step_44 : decode cX12_step 44 = .ok (.ireturn, 1) := by decide +kernel
theorem dX12_step_45 : decode cX12_step 45 = .ok (.aload_n 0, 1) := by decide +kernel
theorem dX12_step_46 : decode cX12_step 46 = .ok (.getfield 7, 3) := by decide +kernel
theorem dX12_step_49 : decode cX12_step 49 = .ok (.bipush 36, 2) := by decide +kernel
theorem dX12_step_51 : decode cX12_step 51 = .ok (.iaload, 1) := by decide +kernel
theorem dX12_step_52 : decode cX12_step 52 = .ok (.bipush 16, 2) := by decide +kernel
theorem dX12_step_54 : decode cX12_step 54 = .ok (.if_icmp .ne 48, 3) := by decide +kernel
theorem dX12_step_57 : decode cX12_step 57 = .ok (.iconst 0, 1) := by decide +kernel
theorem dX12_step_58 : decode cX12_step 58 = .ok (.istore_n 3, 1) := by decide +kernel
theorem dX12_step_59 : decode cX12_step 59 = .ok (.iload_n 3, 1) := by decide +kernel
theorem dX12_step_60 : decode cX12_step 60 = .ok (.bipush 60, 2) := by decide +kernel
theorem dX12_step_62 : decode cX12_step 62 = .ok (.if_icmp .ge 29, 3) := by decide +kernel
theorem dX12_step_65 : decode cX12_step 65 = .ok (.aload_n 0, 1) := by decide +kernel
theorem dX12_step_66 : decode cX12_step 66 = .ok (.getfield 7, 3) := by decide +kernel
theorem dX12_step_69 : decode cX12_step 69 = .ok (.bipush 37, 2) := by decide +kernel
theorem dX12_step_71 : decode cX12_step 71 = .ok (.iload_n 3, 1) := by decide +kernel
theorem dX12_step_72 : decode cX12_step 72 = .ok (.iadd, 1) := by decide +kernel
theorem dX12_step_73 : decode cX12_step 73 = .ok (.aload_n 0, 1) := by decide +kernel
theorem dX12_step_74 : decode cX12_step 74 = .ok (.getfield 7, 3) := by decide +kernel
theorem dX12_step_77 : decode cX12_step 77 = .ok (.bipush 37, 2) := by decide +kernel
theorem dX12_step_79 : decode cX12_step 79 = .ok (.iload_n 3, 1) := by decide +kernel
theorem dX12_step_80 : decode cX12_step 80 = .ok (.iadd, 1) := by decide +kernel
theorem dX12_step_81 : decode cX12_step 81 = .ok (.iconst 4, 1) := by decide +kernel
theorem dX12_step_82 : decode cX12_step 82 = .ok (.iadd, 1) := by decide +kernel
theorem dX12_step_83 : decode cX12_step 83 = .ok (.iaload, 1) := by decide +kernel
theorem dX12_step_84 : decode cX12_step 84 = .ok (.iastore, 1) := by decide +kernel
theorem dX12_step_85 : decode cX12_step 85 = .ok (.iinc 3 1, 3) := by decide +kernel
theorem dX12_step_88 : decode cX12_step 88 = .ok (.goto (-29), 3) := by decide +kernel
theorem dX12_step_91 : decode cX12_step 91 = .ok (.aload_n 0, 1) := by decide +kernel
theorem dX12_step_92 : decode cX12_step 92 = .ok (.getfield 7, 3) := by decide +kernel
theorem dX12_step_95 : decode cX12_step 95 = .ok (.bipush 36, 2) := by decide +kernel
theorem dX12_step_97 : decode cX12_step 97 = .ok (.dup2, 1) := by decide +kernel
theorem dX12_step_98 : decode cX12_step 98 = .ok (.iaload, 1) := by decide +kernel
theorem dX12_step_99 : decode cX12_step 99 = .ok (.iconst 1, 1) := by decide +kernel
theorem dX12_step_100 : decode cX12_step 100 = .ok (.isub, 1) := by decide +kernel
theorem dX12_step_101 : decode cX12_step 101 = .ok (.iastore, 1) := by decide +kernel
theorem dX12_step_102 : decode cX12_step 102 = .ok (.bipush 37, 2) := by decide +kernel
theorem dX12_step_104 : decode cX12_step 104 = .ok (.iconst 4, 1) := by decide +kernel
theorem dX12_step_105 : decode cX12_step 105 = .ok (.aload_n 0, 1) := by decide +kernel
theorem dX12_step_106 : decode cX12_step 106 = .ok (.getfield 7, 3) := by decide +kernel
theorem dX12_step_109 : decode cX12_step 109 = .ok (.bipush 36, 2) := by decide +kernel
theorem dX12_step_111 : decode cX12_step 111 = .ok (.iaload, 1) := by decide +kernel
theorem dX12_step_112 : decode cX12_step 112 = .ok (.imul, 1) := by decide +kernel
theorem dX12_step_113 : decode cX12_step 113 = .ok (.iadd, 1) := by decide +kernel
theorem dX12_step_114 : decode cX12_step 114 = .ok (.istore_n 3, 1) := by decide +kernel
theorem dX12_step_115 : decode cX12_step 115 = .ok (.aload_n 0, 1) := by decide +kernel
theorem dX12_step_116 : decode cX12_step 116 = .ok (.getfield 7, 3) := by decide +kernel
theorem dX12_step_119 : decode cX12_step 119 = .ok (.iload_n 3, 1) := by decide +kernel
theorem dX12_step_120 : decode cX12_step 120 = .ok (.aload_n 0, 1) := by decide +kernel
theorem dX12_step_121 : decode cX12_step 121 = .ok (.getfield 7, 3) := by decide +kernel
theorem dX12_step_124 : decode cX12_step 124 = .ok (.bipush 21, 2) := by decide +kernel
theorem dX12_step_126 : decode cX12_step 126 = .ok (.iaload, 1) := by decide +kernel
theorem dX12_step_127 : decode cX12_step 127 = .ok (.iastore, 1) := by decide +kernel
theorem dX12_step_128 : decode cX12_step 128 = .ok (.iconst 0, 1) := by decide +kernel
theorem dX12_step_129 : decode cX12_step 129 = .ok (.istore 4, 2) := by decide +kernel
theorem dX12_step_131 : decode cX12_step 131 = .ok (.iload 4, 2) := by decide +kernel
theorem dX12_step_133 : decode cX12_step 133 = .ok (.iconst 3, 1) := by decide +kernel
theorem dX12_step_134 : decode cX12_step 134 = .ok (.if_icmp .ge 30, 3) := by decide +kernel
theorem dX12_step_137 : decode cX12_step 137 = .ok (.aload_n 0, 1) := by decide +kernel
theorem dX12_step_138 : decode cX12_step 138 = .ok (.getfield 7, 3) := by decide +kernel
theorem dX12_step_141 : decode cX12_step 141 = .ok (.iload_n 3, 1) := by decide +kernel
theorem dX12_step_142 : decode cX12_step 142 = .ok (.iconst 1, 1) := by decide +kernel
theorem dX12_step_143 : decode cX12_step 143 = .ok (.iadd, 1) := by decide +kernel
theorem dX12_step_144 : decode cX12_step 144 = .ok (.iload 4, 2) := by decide +kernel
theorem dX12_step_146 : decode cX12_step 146 = .ok (.iadd, 1) := by decide +kernel
theorem dX12_step_147 : decode cX12_step 147 = .ok (.aload_n 0, 1) := by decide +kernel
theorem dX12_step_148 : decode cX12_step 148 = .ok (.getfield 7, 3) := by decide +kernel
theorem dX12_step_151 : decode cX12_step 151 = .ok (.bipush 33, 2) := by decide +kernel
theorem dX12_step_153 : decode cX12_step 153 = .ok (.iload 4, 2) := by decide +kernel
theorem dX12_step_155 : decode cX12_step 155 = .ok (.iadd, 1) := by decide +kernel
theorem dX12_step_156 : decode cX12_step 156 = .ok (.iaload, 1) := by decide +kernel
theorem dX12_step_157 : decode cX12_step 157 = .ok (.iastore, 1) := by decide +kernel
theorem dX12_step_158 : decode cX12_step 158 = .ok (.iinc 4 1, 3) := by decide +kernel
theorem dX12_step_161 : decode cX12_step 161 = .ok (.goto (-30), 3) := by decide +kernel
theorem dX12_step_164 : decode cX12_step 164 = .ok (.aload_n 0, 1) := by decide +kernel
theorem dX12_step_165 : decode cX12_step 165 = .ok (.getfield 7, 3) := by decide +kernel
theorem dX12_step_168 : decode cX12_step 168 = .ok (.bipush 36, 2) := by decide +kernel
theorem dX12_step_170 : decode cX12_step 170 = .ok (.dup2, 1) := by decide +kernel
theorem dX12_step_171 : decode cX12_step 171 = .ok (.iaload, 1) := by decide +kernel
theorem dX12_step_172 : decode cX12_step 172 = .ok (.iconst 1, 1) := by decide +kernel
theorem dX12_step_173 : decode cX12_step 173 = .ok (.iadd, 1) := by decide +kernel
theorem dX12_step_174 : decode cX12_step 174 = .ok (.iastore, 1) := by decide +kernel
theorem dX12_step_175 : decode cX12_step 175 = .ok (.aload_n 0, 1) := by decide +kernel
theorem dX12_step_176 : decode cX12_step 176 = .ok (.getfield 35, 3) := by decide +kernel
theorem dX12_step_179 : decode cX12_step 179 = .ok (.iload_n 1, 1) := by decide +kernel
theorem dX12_step_180 : decode cX12_step 180 = .ok (.iload_n 2, 1) := by decide +kernel
theorem dX12_step_181 : decode cX12_step 181 = .ok (.iastore, 1) := by decide +kernel
theorem dX12_step_182 : decode cX12_step 182 = .ok (.aload_n 0, 1) := by decide +kernel
theorem dX12_step_183 : decode cX12_step 183 = .ok (.invokevirtual 199, 3) := by decide +kernel
theorem dX12_step_186 : decode cX12_step 186 = .ok (.aload_n 0, 1) := by decide +kernel
theorem dX12_step_187 : decode cX12_step 187 = .ok (.getfield 7, 3) := by decide +kernel
theorem dX12_step_190 : decode cX12_step 190 = .ok (.bipush 33, 2) := by decide +kernel
theorem dX12_step_192 : decode cX12_step 192 = .ok (.iload_n 1, 1) := by decide +kernel
theorem dX12_step_193 : decode cX12_step 193 = .ok (.iadd, 1) := by decide +kernel
theorem dX12_step_194 : decode cX12_step 194 = .ok (.iload_n 2, 1) := by decide +kernel
theorem dX12_step_195 : decode cX12_step 195 = .ok (.iastore, 1) := by decide +kernel
theorem dX12_step_196 : decode cX12_step 196 = .ok (.aload_n 0, 1) := by decide +kernel
theorem dX12_step_197 : decode cX12_step 197 = .ok (.getfield 7, 3) := by decide +kernel
theorem dX12_step_200 : decode cX12_step 200 = .ok (.bipush 21, 2) := by decide +kernel
theorem dX12_step_202 : decode cX12_step 202 = .ok (.aload_n 0, 1) := by decide +kernel
theorem dX12_step_203 : decode cX12_step 203 = .ok (.getfield 108, 3) := by decide +kernel
theorem dX12_step_206 : decode cX12_step 206 = .ok (.iastore, 1) := by decide +kernel
theorem dX12_step_207 : decode cX12_step 207 = .ok (.aload_n 0, 1) := by decide +kernel
theorem dX12_step_208 : decode cX12_step 208 = .ok (.getfield 108, 3) := by decide +kernel
theorem dX12_step_211 : decode cX12_step 211 = .ok (.ireturn, 1) := by decide +kernel
theorem dX12_undo_0 : decode cX12_undo 0 = .ok (.aload_n 0, 1) := by decide +kernel
theorem dX12_undo_1 : decode cX12_undo 1 = .ok (.getfield 7, 3) := by decide +kernel
theorem dX12_undo_4 : decode cX12_undo 4 = .ok (.bipush 36, 2) := by decide +kernel
theorem dX12_undo_6 : decode cX12_undo 6 = .ok (.iaload, 1) := by decide +kernel
theorem dX12_undo_7 : decode cX12_undo 7 = .ok (.ifCond .ne 10, 3) := by decide +kernel
theorem dX12_undo_10 : decode cX12_undo 10 = .ok (.aload_n 0, 1) := by decide +kernel
theorem dX12_undo_11 : decode cX12_undo 11 = .ok (.bipush (-3), 2) := by decide +kernel
theorem dX12_undo_13 : decode cX12_undo 13 = .ok (.invokevirtual 56, 3) := by decide +kernel
theorem dX12_undo_16 : decode cX12_undo 16 = .ok (.ireturn, 1) := by decide +kernel
theorem dX12_undo_17 : decode cX12_undo 17 = .ok (.aload_n 0, 1) := by decide +kernel
theorem dX12_undo_18 : decode cX12_undo 18 = .ok (.getfield 7, 3) := by decide +kernel
theorem dX12_undo_21 : decode cX12_undo 21 = .ok (.bipush 36, 2) := by decide +kernel
theorem dX12_undo_23 : decode cX12_undo 23 = .ok (.dup2, 1) := by decide +kernel
theorem dX12_undo_24 : decode cX12_undo 24 = .ok (.iaload, 1) := by decide +kernel
theorem dX12_undo_25 : decode cX12_undo 25 = .ok (.iconst 1, 1) := by decide +kernel
theorem dX12_undo_26 : decode cX12_undo 26 = .ok (.isub, 1) := by decide +kernel
theorem dX12_undo_27 : decode cX12_undo 27 = .ok (.iastore, 1) := by decide +kernel
theorem dX12_undo_28 : decode cX12_undo 28 = .ok (.bipush 37, 2) := by decide +kernel
theorem dX12_undo_30 : decode cX12_undo 30 = .ok (.iconst 4, 1) := by decide +kernel
theorem dX12_undo_31 : decode cX12_undo 31 = .ok (.aload_n 0, 1) := by decide +kernel
theorem dX12_undo_32 : decode cX12_undo 32 = .ok (.getfield 7, 3) := by decide +kernel
theorem dX12_undo_35 : decode cX12_undo 35 = .ok (.bipush 36, 2) := by decide +kernel
theorem dX12_undo_37 : decode cX12_undo 37 = .ok (.iaload, 1) := by decide +kernel
theorem dX12_undo_38 : decode cX12_undo 38 = .ok (.imul, 1) := by decide +kernel
theorem dX12_undo_39 : decode cX12_undo 39 = .ok (.iadd, 1) := by decide +kernel
theorem dX12_undo_40 : decode cX12_undo 40 = .ok (.istore_n 1, 1) := by decide +kernel
theorem dX12_undo_41 : decode cX12_undo 41 = .ok (.aload_n 0, 1) := by decide +kernel
theorem dX12_undo_42 : decode cX12_undo 42 = .ok (.getfield 7, 3) := by decide +kernel
theorem dX12_undo_45 : decode cX12_undo 45 = .ok (.bipush 21, 2) := by decide +kernel
theorem dX12_undo_47 : decode cX12_undo 47 = .ok (.aload_n 0, 1) := by decide +kernel
theorem dX12_undo_48 : decode cX12_undo 48 = .ok (.getfield 7, 3) := by decide +kernel
theorem dX12_undo_51 : decode cX12_undo 51 = .ok (.iload_n 1, 1) := by decide +kernel
theorem dX12_undo_52 : decode cX12_undo 52 = .ok (.iaload, 1) := by decide +kernel
theorem dX12_undo_53 : decode cX12_undo 53 = .ok (.iastore, 1) := by decide +kernel
theorem dX12_undo_54 : decode cX12_undo 54 = .ok (.iconst 0, 1) := by decide +kernel
theorem dX12_undo_55 : decode cX12_undo 55 = .ok (.istore_n 2, 1) := by decide +kernel
theorem dX12_undo_56 : decode cX12_undo 56 = .ok (.iload_n 2, 1) := by decide +kernel
theorem dX12_undo_57 : decode cX12_undo 57 = .ok (.iconst 3, 1) := by decide +kernel
theorem dX12_undo_58 : decode cX12_undo 58 = .ok (.if_icmp .ge 28, 3) := by decide +kernel
theorem dX12_undo_61 : decode cX12_undo 61 = .ok (.aload_n 0, 1) := by decide +kernel
theorem dX12_undo_62 : decode cX12_undo 62 = .ok (.getfield 7, 3) := by decide +kernel
theorem dX12_undo_65 : decode cX12_undo 65 = .ok (.bipush 33, 2) := by decide +kernel
theorem dX12_undo_67 : decode cX12_undo 67 = .ok (.iload_n 2, 1) := by decide +kernel
theorem dX12_undo_68 : decode cX12_undo 68 = .ok (.iadd, 1) := by decide +kernel
theorem dX12_undo_69 : decode cX12_undo 69 = .ok (.aload_n 0, 1) := by decide +kernel
theorem dX12_undo_70 : decode cX12_undo 70 = .ok (.getfield 7, 3) := by decide +kernel
theorem dX12_undo_73 : decode cX12_undo 73 = .ok (.iload_n 1, 1) := by decide +kernel
theorem dX12_undo_74 : decode cX12_undo 74 = .ok (.iconst 1, 1) := by decide +kernel
theorem dX12_undo_75 : decode cX12_undo 75 = .ok (.iadd, 1) := by decide +kernel
theorem dX12_undo_76 : decode cX12_undo 76 = .ok (.iload_n 2, 1) := by decide +kernel
theorem dX12_undo_77 : decode cX12_undo 77 = .ok (.iadd, 1) := by decide +kernel
theorem dX12_undo_78 : decode cX12_undo 78 = .ok (.iaload, 1) := by decide +kernel
theorem dX12_undo_79 : decode cX12_undo 79 = .ok (.iastore, 1) := by decide +kernel
theorem dX12_undo_80 : decode cX12_undo 80 = .ok (.iinc 2 1, 3) := by decide +kernel
theorem dX12_undo_83 : decode cX12_undo 83 = .ok (.goto (-27), 3) := by decide +kernel
theorem dX12_undo_86 : decode cX12_undo 86 = .ok (.aload_n 0, 1) := by decide +kernel
theorem dX12_undo_87 : decode cX12_undo 87 = .ok (.getfield 7, 3) := by decide +kernel
theorem dX12_undo_90 : decode cX12_undo 90 = .ok (.bipush 21, 2) := by decide +kernel
theorem dX12_undo_92 : decode cX12_undo 92 = .ok (.iaload, 1) := by decide +kernel
theorem dX12_undo_93 : decode cX12_undo 93 = .ok (.ireturn, 1) := by decide +kernel
theorem dX12_goAll_0 : decode cX12_goAll 0 = .ok (.iconst 0, 1) := by decide +kernel
theorem dX12_goAll_1 : decode cX12_goAll 1 = .ok (.istore_n 1, 1) := by decide +kernel
theorem dX12_goAll_2 : decode cX12_goAll 2 = .ok (.iload_n 1, 1) := by decide +kernel
theorem dX12_goAll_3 : decode cX12_goAll 3 = .ok (.sipush 32000, 3) := by decide +kernel
theorem dX12_goAll_6 : decode cX12_goAll 6 = .ok (.if_icmp .ge 16, 3) := by decide +kernel
theorem dX12_goAll_9 : decode cX12_goAll 9 = .ok (.aload_n 0, 1) := by decide +kernel
theorem dX12_goAll_10 : decode cX12_goAll 10 = .ok (.getfield 44, 3) := by decide +kernel
theorem dX12_goAll_13 : decode cX12_goAll 13 = .ok (.iload_n 1, 1) := by decide +kernel
theorem dX12_goAll_14 : decode cX12_goAll 14 = .ok (.iconst (-1), 1) := by decide +kernel
theorem dX12_goAll_15 : decode cX12_goAll 15 = .ok (.iastore, 1) := by decide +kernel
theorem dX12_goAll_16 : decode cX12_goAll 16 = .ok (.iinc 1 1, 3) := by decide +kernel
theorem dX12_goAll_19 : decode cX12_goAll 19 = .ok (.goto (-17), 3) := by decide +kernel
theorem dX12_goAll_22 : decode cX12_goAll 22 = .ok (.aload_n 0, 1) := by decide +kernel
theorem dX12_goAll_23 : decode cX12_goAll 23 = .ok (.invokevirtual 128, 3) := by decide +kernel
theorem dX12_goAll_26 : decode cX12_goAll 26 = .ok (.aload_n 0, 1) := by decide +kernel
theorem dX12_goAll_27 : decode cX12_goAll 27 = .ok (.getfield 47, 3) := by decide +kernel
theorem dX12_goAll_30 : decode cX12_goAll 30 = .ok (.iconst 0, 1) := by decide +kernel
theorem dX12_goAll_31 : decode cX12_goAll 31 = .ok (.aload_n 0, 1) := by decide +kernel
theorem dX12_goAll_32 : decode cX12_goAll 32 = .ok (.invokevirtual 202, 3) := by decide +kernel
theorem dX12_goAll_35 : decode cX12_goAll 35 = .ok (.iastore, 1) := by decide +kernel
theorem dX12_goAll_36 : decode cX12_goAll 36 = .ok (.aload_n 0, 1) := by decide +kernel
theorem dX12_goAll_37 : decode cX12_goAll 37 = .ok (.getfield 44, 3) := by decide +kernel
theorem dX12_goAll_40 : decode cX12_goAll 40 = .ok (.aload_n 0, 1) := by decide +kernel
theorem dX12_goAll_41 : decode cX12_goAll 41 = .ok (.getfield 47, 3) := by decide +kernel
theorem dX12_goAll_44 : decode cX12_goAll 44 = .ok (.iconst 0, 1) := by decide +kernel
theorem dX12_goAll_45 : decode cX12_goAll 45 = .ok (.iaload, 1) := by decide +kernel
theorem dX12_goAll_46 : decode cX12_goAll 46 = .ok (.iconst 0, 1) := by decide +kernel
theorem dX12_goAll_47 : decode cX12_goAll 47 = .ok (.iastore, 1) := by decide +kernel
theorem dX12_goAll_48 : decode cX12_goAll 48 = .ok (.aload_n 0, 1) := by decide +kernel
theorem dX12_goAll_49 : decode cX12_goAll 49 = .ok (.iconst 1, 1) := by decide +kernel
theorem dX12_goAll_50 : decode cX12_goAll 50 = .ok (.putfield 205, 3) := by decide +kernel
theorem dX12_goAll_53 : decode cX12_goAll 53 = .ok (.iconst 0, 1) := by decide +kernel
theorem dX12_goAll_54 : decode cX12_goAll 54 = .ok (.istore_n 1, 1) := by decide +kernel
theorem dX12_goAll_55 : decode cX12_goAll 55 = .ok (.iload_n 1, 1) := by decide +kernel
theorem dX12_goAll_56 : decode cX12_goAll 56 = .ok (.aload_n 0, 1) := by decide +kernel
theorem dX12_goAll_57 : decode cX12_goAll 57 = .ok (.getfield 205, 3) := by decide +kernel
theorem dX12_goAll_60 : decode cX12_goAll 60 = .ok (.if_icmp .ge 125, 3) := by decide +kernel
theorem dX12_goAll_63 : decode cX12_goAll 63 = .ok (.aload_n 0, 1) := by decide +kernel
theorem dX12_goAll_64 : decode cX12_goAll 64 = .ok (.getfield 47, 3) := by decide +kernel
theorem dX12_goAll_67 : decode cX12_goAll 67 = .ok (.iload_n 1, 1) := by decide +kernel
theorem dX12_goAll_68 : decode cX12_goAll 68 = .ok (.iaload, 1) := by decide +kernel
theorem dX12_goAll_69 : decode cX12_goAll 69 = .ok (.istore_n 2, 1) := by decide +kernel
theorem dX12_goAll_70 : decode cX12_goAll 70 = .ok (.iconst 0, 1) := by decide +kernel
theorem dX12_goAll_71 : decode cX12_goAll 71 = .ok (.istore_n 3, 1) := by decide +kernel
theorem dX12_goAll_72 : decode cX12_goAll 72 = .ok (.iload_n 3, 1) := by decide +kernel
theorem dX12_goAll_73 : decode cX12_goAll 73 = .ok (.bipush 10, 2) := by decide +kernel
theorem dX12_goAll_75 : decode cX12_goAll 75 = .ok (.aload_n 0, 1) := by decide +kernel
theorem dX12_goAll_76 : decode cX12_goAll 76 = .ok (.getfield 7, 3) := by decide +kernel
theorem dX12_goAll_79 : decode cX12_goAll 79 = .ok (.bipush 29, 2) := by decide +kernel
theorem dX12_goAll_81 : decode cX12_goAll 81 = .ok (.iaload, 1) := by decide +kernel
theorem dX12_goAll_82 : decode cX12_goAll 82 = .ok (.imul, 1) := by decide +kernel
theorem dX12_goAll_83 : decode cX12_goAll 83 = .ok (.if_icmp .ge 96, 3) := by decide +kernel
theorem dX12_goAll_86 : decode cX12_goAll 86 = .ok (.aload_n 0, 1) := by decide +kernel
theorem dX12_goAll_87 : decode cX12_goAll 87 = .ok (.iload_n 2, 1) := by decide +kernel
theorem dX12_goAll_88 : decode cX12_goAll 88 = .ok (.invokevirtual 208, 3) := by decide +kernel
theorem dX12_goAll_91 : decode cX12_goAll 91 = .ok (.aload_n 0, 1) := by decide +kernel
theorem dX12_goAll_92 : decode cX12_goAll 92 = .ok (.iload_n 3, 1) := by decide +kernel
theorem dX12_goAll_93 : decode cX12_goAll 93 = .ok (.bipush 10, 2) := by decide +kernel
theorem dX12_goAll_95 : decode cX12_goAll 95 = .ok (.idiv, 1) := by decide +kernel
theorem dX12_goAll_96 : decode cX12_goAll 96 = .ok (.iload_n 3, 1) := by decide +kernel
theorem dX12_goAll_97 : decode cX12_goAll 97 = .ok (.bipush 10, 2) := by decide +kernel
theorem dX12_goAll_99 : decode cX12_goAll 99 = .ok (.irem, 1) := by decide +kernel
theorem dX12_goAll_100 : decode cX12_goAll 100 = .ok (.invokevirtual 196, 3) := by decide +kernel
theorem dX12_goAll_103 : decode cX12_goAll 103 = .ok (.ifCond .eq 70, 3) := by decide +kernel
theorem dX12_goAll_106 : decode cX12_goAll 106 = .ok (.aload_n 0, 1) := by decide +kernel
theorem dX12_goAll_107 : decode cX12_goAll 107 = .ok (.getfield 35, 3) := by decide +kernel
theorem dX12_goAll_110 : decode cX12_goAll 110 = .ok (.iload_n 3, 1) := by decide +kernel
theorem dX12_goAll_111 : decode cX12_goAll 111 = .ok (.bipush 10, 2) := by decide +kernel
theorem dX12_goAll_113 : decode cX12_goAll 113 = .ok (.idiv, 1) := by decide +kernel
theorem dX12_goAll_114 : decode cX12_goAll 114 = .ok (.iload_n 3, 1) := by decide +kernel
theorem dX12_goAll_115 : decode cX12_goAll 115 = .ok (.bipush 10, 2) := by decide +kernel
theorem dX12_goAll_117 : decode cX12_goAll 117 = .ok (.irem, 1) := by decide +kernel
theorem dX12_goAll_118 : decode cX12_goAll 118 = .ok (.iastore, 1) := by decide +kernel
theorem dX12_goAll_119 : decode cX12_goAll 119 = .ok (.aload_n 0, 1) := by decide +kernel
theorem dX12_goAll_120 : decode cX12_goAll 120 = .ok (.invokevirtual 199, 3) := by decide +kernel
theorem dX12_goAll_123 : decode cX12_goAll 123 = .ok (.aload_n 0, 1) := by decide +kernel
theorem dX12_goAll_124 : decode cX12_goAll 124 = .ok (.invokevirtual 202, 3) := by decide +kernel
theorem dX12_goAll_127 : decode cX12_goAll 127 = .ok (.istore 4, 2) := by decide +kernel
theorem dX12_goAll_129 : decode cX12_goAll 129 = .ok (.aload_n 0, 1) := by decide +kernel
theorem dX12_goAll_130 : decode cX12_goAll 130 = .ok (.getfield 44, 3) := by decide +kernel
theorem dX12_goAll_133 : decode cX12_goAll 133 = .ok (.iload 4, 2) := by decide +kernel
theorem dX12_goAll_135 : decode cX12_goAll 135 = .ok (.iaload, 1) := by decide +kernel
theorem dX12_goAll_136 : decode cX12_goAll 136 = .ok (.ifCond .ge 37, 3) := by decide +kernel
theorem dX12_goAll_139 : decode cX12_goAll 139 = .ok (.aload_n 0, 1) := by decide +kernel
theorem dX12_goAll_140 : decode cX12_goAll 140 = .ok (.getfield 44, 3) := by decide +kernel
theorem dX12_goAll_143 : decode cX12_goAll 143 = .ok (.iload 4, 2) := by decide +kernel
theorem dX12_goAll_145 : decode cX12_goAll 145 = .ok (.bipush 32, 2) := by decide +kernel
theorem dX12_goAll_147 : decode cX12_goAll 147 = .ok (.iload_n 2, 1) := by decide +kernel
theorem dX12_goAll_148 : decode cX12_goAll 148 = .ok (.imul, 1) := by decide +kernel
theorem dX12_goAll_149 : decode cX12_goAll 149 = .ok (.iload_n 3, 1) := by decide +kernel
theorem dX12_goAll_150 : decode cX12_goAll 150 = .ok (.iadd, 1) := by decide +kernel
theorem dX12_goAll_151 : decode cX12_goAll 151 = .ok (.iastore, 1) := by decide +kernel
theorem dX12_goAll_152 : decode cX12_goAll 152 = .ok (.aload_n 0, 1) := by decide +kernel
theorem dX12_goAll_153 : decode cX12_goAll 153 = .ok (.getfield 47, 3) := by decide +kernel
theorem dX12_goAll_156 : decode cX12_goAll 156 = .ok (.aload_n 0, 1) := by decide +kernel
theorem dX12_goAll_157 : decode cX12_goAll 157 = .ok (.getfield 205, 3) := by decide +kernel
theorem dX12_goAll_160 : decode cX12_goAll 160 = .ok (.iload 4, 2) := by decide +kernel
theorem dX12_goAll_162 : decode cX12_goAll 162 = .ok (.iastore, 1) := by decide +kernel
theorem dX12_goAll_163 : decode cX12_goAll 163 = .ok (.aload_n 0, 1) := by decide +kernel
theorem dX12_goAll_164 : decode cX12_goAll 164 = .ok (.dup, 1) := by decide +kernel
theorem dX12_goAll_165 : decode cX12_goAll 165 = .ok (.getfield 205, 3) := by decide +kernel
theorem dX12_goAll_168 : decode cX12_goAll 168 = .ok (.iconst 1, 1) := by decide +kernel
theorem dX12_goAll_169 : decode cX12_goAll 169 = .ok (.iadd, 1) := by decide +kernel
theorem dX12_goAll_170 : decode cX12_goAll 170 = .ok (.putfield 205, 3) := by decide +kernel
theorem dX12_goAll_173 : decode cX12_goAll 173 = .ok (.iinc 3 1, 3) := by decide +kernel
theorem dX12_goAll_176 : decode cX12_goAll 176 = .ok (.goto (-104), 3) := by decide +kernel
theorem dX12_goAll_179 : decode cX12_goAll 179 = .ok (.iinc 1 1, 3) := by decide +kernel
theorem dX12_goAll_182 : decode cX12_goAll 182 = .ok (.goto (-127), 3) := by decide +kernel
theorem dX12_goAll_185 : decode cX12_goAll 185 = .ok (.return_, 1) := by decide +kernel
theorem dX12_findWay_0 : decode cX12_findWay 0 = .ok (.aload_n 0, 1) := by decide +kernel
theorem dX12_findWay_1 : decode cX12_findWay 1 = .ok (.invokevirtual 212, 3) := by decide +kernel
theorem dX12_findWay_4 : decode cX12_findWay 4 = .ok (.iconst 0, 1) := by decide +kernel
theorem dX12_findWay_5 : decode cX12_findWay 5 = .ok (.istore_n 3, 1) := by decide +kernel
theorem dX12_findWay_6 : decode cX12_findWay 6 = .ok (.iload_n 3, 1) := by decide +kernel
theorem dX12_findWay_7 : decode cX12_findWay 7 = .ok (.aload_n 0, 1) := by decide +kernel
theorem dX12_findWay_8 : decode cX12_findWay 8 = .ok (.getfield 205, 3) := by decide +kernel
theorem dX12_findWay_11 : decode cX12_findWay 11 = .ok (.if_icmp .ge 87, 3) := by decide +kernel
theorem dX12_findWay_14 : decode cX12_findWay 14 = .ok (.aload_n 0, 1) := by decide +kernel
theorem dX12_findWay_15 : decode cX12_findWay 15 = .ok (.aload_n 0, 1) := by decide +kernel
theorem dX12_findWay_16 : decode cX12_findWay 16 = .ok (.getfield 47, 3) := by decide +kernel
theorem dX12_findWay_19 : decode cX12_findWay 19 = .ok (.iload_n 3, 1) := by decide +kernel
theorem dX12_findWay_20 : decode cX12_findWay 20 = .ok (.iaload, 1) := by decide +kernel
theorem dX12_findWay_21 : decode cX12_findWay 21 = .ok (.invokevirtual 208, 3) := by decide +kernel
theorem dX12_findWay_24 : decode cX12_findWay 24 = .ok (.iconst 1, 1) := by decide +kernel
theorem dX12_findWay_25 : decode cX12_findWay 25 = .ok (.istore 4, 2) := by decide +kernel
theorem dX12_findWay_27 : decode cX12_findWay 27 = .ok (.iconst 0, 1) := by decide +kernel
theorem dX12_findWay_28 : decode cX12_findWay 28 = .ok (.istore 5, 2) := by decide +kernel
theorem dX12_findWay_30 : decode cX12_findWay 30 = .ok (.iload 5, 2) := by decide +kernel
theorem dX12_findWay_32 : decode cX12_findWay 32 = .ok (.aload_n 0, 1) := by decide +kernel
theorem dX12_findWay_33 : decode cX12_findWay 33 = .ok (.getfield 7, 3) := by decide +kernel
theorem dX12_findWay_36 : decode cX12_findWay 36 = .ok (.bipush 29, 2) := by decide +kernel
theorem dX12_findWay_38 : decode cX12_findWay 38 = .ok (.iaload, 1) := by decide +kernel
theorem dX12_findWay_39 : decode cX12_findWay 39 = .ok (.if_icmp .ge 41, 3) := by decide +kernel
theorem dX12_findWay_42 : decode cX12_findWay 42 = .ok (.iload 4, 2) := by decide +kernel
theorem dX12_findWay_44 : decode cX12_findWay 44 = .ok (.ifCond .eq 27, 3) := by decide +kernel
theorem dX12_findWay_47 : decode cX12_findWay 47 = .ok (.iload_n 1, 1) := by decide +kernel
theorem dX12_findWay_48 : decode cX12_findWay 48 = .ok (.iload 5, 2) := by decide +kernel
theorem dX12_findWay_50 : decode cX12_findWay 50 = .ok (.invokestatic 105, 3) := by decide +kernel
theorem dX12_findWay_53 : decode cX12_findWay 53 = .ok (.ifCond .eq 14, 3) := by decide +kernel
theorem dX12_findWay_56 : decode cX12_findWay 56 = .ok (.aload_n 0, 1) := by decide +kernel
theorem dX12_findWay_57 : decode cX12_findWay 57 = .ok (.getfield 35, 3) := by decide +kernel
theorem dX12_findWay_60 : decode cX12_findWay 60 = .ok (.iload 5, 2) := by decide +kernel
theorem dX12_findWay_62 : decode cX12_findWay 62 = .ok (.iaload, 1) := by decide +kernel
theorem dX12_findWay_63 : decode cX12_findWay 63 = .ok (.iload_n 2, 1) := by decide +kernel
theorem dX12_findWay_64 : decode cX12_findWay 64 = .ok (.if_icmp .ne 7, 3) := by decide +kernel
theorem dX12_findWay_67 : decode cX12_findWay 67 = .ok (.iconst 1, 1) := by decide +kernel
theorem dX12_findWay_68 : decode cX12_findWay 68 = .ok (.goto 4, 3) := by decide +kernel
theorem dX12_findWay_71 : decode cX12_findWay 71 = .ok (.iconst 0, 1) := by decide +kernel
theorem dX12_findWay_72 : decode cX12_findWay 72 = .ok (.istore 4, 2) := by decide +kernel
theorem dX12_findWay_74 : decode cX12_findWay 74 = .ok (.iinc 5 1, 3) := by decide +kernel
theorem dX12_findWay_77 : decode cX12_findWay 77 = .ok (.goto (-47), 3) := by decide +kernel
theorem dX12_findWay_80 : decode cX12_findWay 80 = .ok (.iload 4, 2) := by decide +kernel
theorem dX12_findWay_82 : decode cX12_findWay 82 = .ok (.ifCond .eq 10, 3) := by decide +kernel
theorem dX12_findWay_85 : decode cX12_findWay 85 = .ok (.aload_n 0, 1) := by decide +kernel
theorem dX12_findWay_86 : decode cX12_findWay 86 = .ok (.getfield 47, 3) := by decide +kernel
theorem dX12_findWay_89 : decode cX12_findWay 89 = .ok (.iload_n 3, 1) := by decide +kernel
theorem dX12_findWay_90 : decode cX12_findWay 90 = .ok (.iaload, 1) := by decide +kernel
theorem dX12_findWay_91 : decode cX12_findWay 91 = .ok (.ireturn, 1) := by decide +kernel
theorem dX12_findWay_92 : decode cX12_findWay 92 = .ok (.iinc 3 1, 3) := by decide +kernel
theorem dX12_findWay_95 : decode cX12_findWay 95 = .ok (.goto (-89), 3) := by decide +kernel
theorem dX12_findWay_98 : decode cX12_findWay 98 = .ok (.iconst (-1), 1) := by decide +kernel
theorem dX12_findWay_99 : decode cX12_findWay 99 = .ok (.ireturn, 1) := by decide +kernel
theorem dX12_stepsTo_0 : decode cX12_stepsTo 0 = .ok (.iconst 0, 1) := by decide +kernel
theorem dX12_stepsTo_1 : decode cX12_stepsTo 1 = .ok (.istore_n 2, 1) := by decide +kernel
theorem dX12_stepsTo_2 : decode cX12_stepsTo 2 = .ok (.iload_n 1, 1) := by decide +kernel
theorem dX12_stepsTo_3 : decode cX12_stepsTo 3 = .ok (.istore_n 3, 1) := by decide +kernel
theorem dX12_stepsTo_4 : decode cX12_stepsTo 4 = .ok (.iload_n 3, 1) := by decide +kernel
theorem dX12_stepsTo_5 : decode cX12_stepsTo 5 = .ok (.aload_n 0, 1) := by decide +kernel
theorem dX12_stepsTo_6 : decode cX12_stepsTo 6 = .ok (.getfield 47, 3) := by decide +kernel
theorem dX12_stepsTo_9 : decode cX12_stepsTo 9 = .ok (.iconst 0, 1) := by decide +kernel
theorem dX12_stepsTo_10 : decode cX12_stepsTo 10 = .ok (.iaload, 1) := by decide +kernel
theorem dX12_stepsTo_11 : decode cX12_stepsTo 11 = .ok (.if_icmp .eq 19, 3) := by decide +kernel
theorem dX12_stepsTo_14 : decode cX12_stepsTo 14 = .ok (.iinc 2 1, 3) := by decide +kernel
theorem dX12_stepsTo_17 : decode cX12_stepsTo 17 = .ok (.aload_n 0, 1) := by decide +kernel
theorem dX12_stepsTo_18 : decode cX12_stepsTo 18 = .ok (.getfield 44, 3) := by decide +kernel
theorem dX12_stepsTo_21 : decode cX12_stepsTo 21 = .ok (.iload_n 3, 1) := by decide +kernel
theorem dX12_stepsTo_22 : decode cX12_stepsTo 22 = .ok (.iaload, 1) := by decide +kernel
theorem dX12_stepsTo_23 : decode cX12_stepsTo 23 = .ok (.bipush 32, 2) := by decide +kernel
theorem dX12_stepsTo_25 : decode cX12_stepsTo 25 = .ok (.idiv, 1) := by decide +kernel
theorem dX12_stepsTo_26 : decode cX12_stepsTo 26 = .ok (.istore_n 3, 1) := by decide +kernel
theorem dX12_stepsTo_27 : decode cX12_stepsTo 27 = .ok (.goto (-23), 3) := by decide +kernel
theorem dX12_stepsTo_30 : decode cX12_stepsTo 30 = .ok (.iload_n 2, 1) := by decide +kernel
theorem dX12_stepsTo_31 : decode cX12_stepsTo 31 = .ok (.ireturn, 1) := by decide +kernel
theorem dX12_stepsOf_0 : decode cX12_stepsOf 0 = .ok (.aload_n 0, 1) := by decide +kernel
theorem dX12_stepsOf_1 : decode cX12_stepsOf 1 = .ok (.iload_n 1, 1) := by decide +kernel
theorem dX12_stepsOf_2 : decode cX12_stepsOf 2 = .ok (.iload_n 2, 1) := by decide +kernel
theorem dX12_stepsOf_3 : decode cX12_stepsOf 3 = .ok (.invokevirtual 215, 3) := by decide +kernel
theorem dX12_stepsOf_6 : decode cX12_stepsOf 6 = .ok (.istore_n 3, 1) := by decide +kernel
theorem dX12_stepsOf_7 : decode cX12_stepsOf 7 = .ok (.iload_n 3, 1) := by decide +kernel
theorem dX12_stepsOf_8 : decode cX12_stepsOf 8 = .ok (.ifCond .ge 8, 3) := by decide +kernel
theorem dX12_stepsOf_11 : decode cX12_stepsOf 11 = .ok (.ldc 219, 2) := by decide +kernel
theorem dX12_stepsOf_13 : decode cX12_stepsOf 13 = .ok (.goto 8, 3) := by decide +kernel
theorem dX12_stepsOf_16 : decode cX12_stepsOf 16 = .ok (.aload_n 0, 1) := by decide +kernel
theorem dX12_stepsOf_17 : decode cX12_stepsOf 17 = .ok (.iload_n 3, 1) := by decide +kernel
theorem dX12_stepsOf_18 : decode cX12_stepsOf 18 = .ok (.invokevirtual 220, 3) := by decide +kernel
theorem dX12_stepsOf_21 : decode cX12_stepsOf 21 = .ok (.ireturn, 1) := by decide +kernel
theorem dX12_areSome_0 : decode cX12_areSome 0 = .ok (.iload_n 1, 1) := by decide +kernel
theorem dX12_areSome_1 : decode cX12_areSome 1 = .ok (.i2l, 1) := by decide +kernel
theorem dX12_areSome_2 : decode cX12_areSome 2 = .ok (.lconst 0, 1) := by decide +kernel
theorem dX12_areSome_3 : decode cX12_areSome 3 = .ok (.iconst 1, 1) := by decide +kernel
theorem dX12_areSome_4 : decode cX12_areSome 4 = .ok (.aload_n 0, 1) := by decide +kernel
theorem dX12_areSome_5 : decode cX12_areSome 5 = .ok (.getfield 7, 3) := by decide +kernel
theorem dX12_areSome_8 : decode cX12_areSome 8 = .ok (.bipush 29, 2) := by decide +kernel
theorem dX12_areSome_10 : decode cX12_areSome 10 = .ok (.iaload, 1) := by decide +kernel
theorem dX12_areSome_11 : decode cX12_areSome 11 = .ok (.ishl, 1) := by decide +kernel
theorem dX12_areSome_12 : decode cX12_areSome 12 = .ok (.iconst 1, 1) := by decide +kernel
theorem dX12_areSome_13 : decode cX12_areSome 13 = .ok (.isub, 1) := by decide +kernel
theorem dX12_areSome_14 : decode cX12_areSome 14 = .ok (.i2l, 1) := by decide +kernel
theorem dX12_areSome_15 : decode cX12_areSome 15 = .ok (.invokestatic 62, 3) := by decide +kernel
theorem dX12_areSome_18 : decode cX12_areSome 18 = .ok (.ireturn, 1) := by decide +kernel
theorem dX12_isRoom_0 : decode cX12_isRoom 0 = .ok (.iload_n 0, 1) := by decide +kernel
theorem dX12_isRoom_1 : decode cX12_isRoom 1 = .ok (.i2l, 1) := by decide +kernel
theorem dX12_isRoom_2 : decode cX12_isRoom 2 = .ok (.lconst 0, 1) := by decide +kernel
theorem dX12_isRoom_3 : decode cX12_isRoom 3 = .ok (.ldc2_w 60, 3) := by decide +kernel
theorem dX12_isRoom_6 : decode cX12_isRoom 6 = .ok (.invokestatic 62, 3) := by decide +kernel
theorem dX12_isRoom_9 : decode cX12_isRoom 9 = .ok (.ireturn, 1) := by decide +kernel
theorem dX12_way_0 : decode cX12_way 0 = .ok (.aload_n 0, 1) := by decide +kernel
theorem dX12_way_1 : decode cX12_way 1 = .ok (.iload_n 1, 1) := by decide +kernel
theorem dX12_way_2 : decode cX12_way 2 = .ok (.invokevirtual 223, 3) := by decide +kernel
theorem dX12_way_5 : decode cX12_way 5 = .ok (.ifCond .eq 15, 3) := by decide +kernel
theorem dX12_way_8 : decode cX12_way 8 = .ok (.iload_n 2, 1) := by decide +kernel
theorem dX12_way_9 : decode cX12_way 9 = .ok (.invokestatic 226, 3) := by decide +kernel
theorem dX12_way_12 : decode cX12_way 12 = .ok (.ifCond .eq 8, 3) := by decide +kernel
theorem dX12_way_15 : decode cX12_way 15 = .ok (.iload_n 3, 1) := by decide +kernel
theorem dX12_way_16 : decode cX12_way 16 = .ok (.iconst (-1), 1) := by decide +kernel
theorem dX12_way_17 : decode cX12_way 17 = .ok (.if_icmp .ge 16, 3) := by decide +kernel
theorem dX12_way_20 : decode cX12_way 20 = .ok (.aload_n 0, 1) := by decide +kernel
theorem dX12_way_21 : decode cX12_way 21 = .ok (.getfield 20, 3) := by decide +kernel
theorem dX12_way_24 : decode cX12_way 24 = .ok (.iconst 0, 1) := by decide +kernel
theorem dX12_way_25 : decode cX12_way 25 = .ok (.dup2, 1) := by decide +kernel
theorem dX12_way_26 : decode cX12_way 26 = .ok (.iaload, 1) := by decide +kernel
theorem dX12_way_27 : decode cX12_way 27 = .ok (.iconst 1, 1) := by decide +kernel
theorem dX12_way_28 : decode cX12_way 28 = .ok (.iadd, 1) := by decide +kernel
theorem dX12_way_29 : decode cX12_way 29 = .ok (.iastore, 1) := by decide +kernel
theorem dX12_way_30 : decode cX12_way 30 = .ok (.bipush (-10), 2) := by decide +kernel
theorem dX12_way_32 : decode cX12_way 32 = .ok (.ireturn, 1) := by decide +kernel
theorem dX12_way_33 : decode cX12_way 33 = .ok (.aload_n 0, 1) := by decide +kernel
theorem dX12_way_34 : decode cX12_way 34 = .ok (.invokevirtual 125, 3) := by decide +kernel
theorem dX12_way_37 : decode cX12_way 37 = .ok (.aload_n 0, 1) := by decide +kernel
theorem dX12_way_38 : decode cX12_way 38 = .ok (.iload_n 1, 1) := by decide +kernel
theorem dX12_way_39 : decode cX12_way 39 = .ok (.iload_n 2, 1) := by decide +kernel
theorem dX12_way_40 : decode cX12_way 40 = .ok (.invokevirtual 215, 3) := by decide +kernel
theorem dX12_way_43 : decode cX12_way 43 = .ok (.istore 4, 2) := by decide +kernel
theorem dX12_way_45 : decode cX12_way 45 = .ok (.iload 4, 2) := by decide +kernel
theorem dX12_way_47 : decode cX12_way 47 = .ok (.ifCond .ge 5, 3) := by decide +kernel
theorem dX12_way_50 : decode cX12_way 50 = .ok (.iconst (-1), 1) := by decide +kernel
theorem dX12_way_51 : decode cX12_way 51 = .ok (.ireturn, 1) := by decide +kernel
theorem dX12_way_52 : decode cX12_way 52 = .ok (.aload_n 0, 1) := by decide +kernel
theorem dX12_way_53 : decode cX12_way 53 = .ok (.iload 4, 2) := by decide +kernel
theorem dX12_way_55 : decode cX12_way 55 = .ok (.invokevirtual 220, 3) := by decide +kernel
theorem dX12_way_58 : decode cX12_way 58 = .ok (.istore 5, 2) := by decide +kernel
theorem dX12_way_60 : decode cX12_way 60 = .ok (.iload_n 3, 1) := by decide +kernel
theorem dX12_way_61 : decode cX12_way 61 = .ok (.iconst (-1), 1) := by decide +kernel
theorem dX12_way_62 : decode cX12_way 62 = .ok (.if_icmp .eq 9, 3) := by decide +kernel
theorem dX12_way_65 : decode cX12_way 65 = .ok (.iload_n 3, 1) := by decide +kernel
theorem dX12_way_66 : decode cX12_way 66 = .ok (.iload 5, 2) := by decide +kernel
theorem dX12_way_68 : decode cX12_way 68 = .ok (.if_icmp .lt 16, 3) := by decide +kernel
theorem dX12_way_71 : decode cX12_way 71 = .ok (.iload_n 3, 1) := by decide +kernel
theorem dX12_way_72 : decode cX12_way 72 = .ok (.iconst (-1), 1) := by decide +kernel
theorem dX12_way_73 : decode cX12_way 73 = .ok (.if_icmp .ne 8, 3) := by decide +kernel
theorem dX12_way_76 : decode cX12_way 76 = .ok (.iload 5, 2) := by decide +kernel
theorem dX12_way_78 : decode cX12_way 78 = .ok (.goto 5, 3) := by decide +kernel
theorem dX12_way_81 : decode cX12_way 81 = .ok (.bipush (-5), 2) := by decide +kernel
theorem dX12_way_83 : decode cX12_way 83 = .ok (.ireturn, 1) := by decide +kernel
theorem dX12_way_84 : decode cX12_way 84 = .ok (.iload 5, 2) := by decide +kernel
theorem dX12_way_86 : decode cX12_way 86 = .ok (.iconst 1, 1) := by decide +kernel
theorem dX12_way_87 : decode cX12_way 87 = .ok (.isub, 1) := by decide +kernel
theorem dX12_way_88 : decode cX12_way 88 = .ok (.istore 6, 2) := by decide +kernel
theorem dX12_way_90 : decode cX12_way 90 = .ok (.iload 6, 2) := by decide +kernel
theorem dX12_way_92 : decode cX12_way 92 = .ok (.iload_n 3, 1) := by decide +kernel
theorem dX12_way_93 : decode cX12_way 93 = .ok (.if_icmp .le 21, 3) := by decide +kernel
theorem dX12_way_96 : decode cX12_way 96 = .ok (.aload_n 0, 1) := by decide +kernel
theorem dX12_way_97 : decode cX12_way 97 = .ok (.getfield 44, 3) := by decide +kernel
theorem dX12_way_100 : decode cX12_way 100 = .ok (.iload 4, 2) := by decide +kernel
theorem dX12_way_102 : decode cX12_way 102 = .ok (.iaload, 1) := by decide +kernel
theorem dX12_way_103 : decode cX12_way 103 = .ok (.bipush 32, 2) := by decide +kernel
theorem dX12_way_105 : decode cX12_way 105 = .ok (.idiv, 1) := by decide +kernel
theorem dX12_way_106 : decode cX12_way 106 = .ok (.istore 4, 2) := by decide +kernel
theorem dX12_way_108 : decode cX12_way 108 = .ok (.iinc 6 (-1), 3) := by decide +kernel
theorem dX12_way_111 : decode cX12_way 111 = .ok (.goto (-21), 3) := by decide +kernel
theorem dX12_way_114 : decode cX12_way 114 = .ok (.aload_n 0, 1) := by decide +kernel
theorem dX12_way_115 : decode cX12_way 115 = .ok (.getfield 44, 3) := by decide +kernel
theorem dX12_way_118 : decode cX12_way 118 = .ok (.iload 4, 2) := by decide +kernel
theorem dX12_way_120 : decode cX12_way 120 = .ok (.iaload, 1) := by decide +kernel
theorem dX12_way_121 : decode cX12_way 121 = .ok (.bipush 32, 2) := by decide +kernel
theorem dX12_way_123 : decode cX12_way 123 = .ok (.irem, 1) := by decide +kernel
theorem dX12_way_124 : decode cX12_way 124 = .ok (.ireturn, 1) := by decide +kernel
theorem dX12_lyings_0 : decode cX12_lyings 0 = .ok (.iconst 0, 1) := by decide +kernel
theorem dX12_lyings_1 : decode cX12_lyings 1 = .ok (.istore_n 1, 1) := by decide +kernel
theorem dX12_lyings_2 : decode cX12_lyings 2 = .ok (.iconst 0, 1) := by decide +kernel
theorem dX12_lyings_3 : decode cX12_lyings 3 = .ok (.istore_n 2, 1) := by decide +kernel
theorem dX12_lyings_4 : decode cX12_lyings 4 = .ok (.iload_n 2, 1) := by decide +kernel
theorem dX12_lyings_5 : decode cX12_lyings 5 = .ok (.aload_n 0, 1) := by decide +kernel
theorem dX12_lyings_6 : decode cX12_lyings 6 = .ok (.getfield 205, 3) := by decide +kernel
theorem dX12_lyings_9 : decode cX12_lyings 9 = .ok (.if_icmp .ge 23, 3) := by decide +kernel
theorem dX12_lyings_12 : decode cX12_lyings 12 = .ok (.iload_n 1, 1) := by decide +kernel
theorem dX12_lyings_13 : decode cX12_lyings 13 = .ok (.iconst 1, 1) := by decide +kernel
theorem dX12_lyings_14 : decode cX12_lyings 14 = .ok (.aload_n 0, 1) := by decide +kernel
theorem dX12_lyings_15 : decode cX12_lyings 15 = .ok (.getfield 47, 3) := by decide +kernel
theorem dX12_lyings_18 : decode cX12_lyings 18 = .ok (.iload_n 2, 1) := by decide +kernel
theorem dX12_lyings_19 : decode cX12_lyings 19 = .ok (.iaload, 1) := by decide +kernel
theorem dX12_lyings_20 : decode cX12_lyings 20 = .ok (.bipush 31, 2) := by decide +kernel
theorem dX12_lyings_22 : decode cX12_lyings 22 = .ok (.iand, 1) := by decide +kernel
theorem dX12_lyings_23 : decode cX12_lyings 23 = .ok (.ishl, 1) := by decide +kernel
theorem dX12_lyings_24 : decode cX12_lyings 24 = .ok (.ior, 1) := by decide +kernel
theorem dX12_lyings_25 : decode cX12_lyings 25 = .ok (.istore_n 1, 1) := by decide +kernel
theorem dX12_lyings_26 : decode cX12_lyings 26 = .ok (.iinc 2 1, 3) := by decide +kernel
theorem dX12_lyings_29 : decode cX12_lyings 29 = .ok (.goto (-25), 3) := by decide +kernel
theorem dX12_lyings_32 : decode cX12_lyings 32 = .ok (.iload_n 1, 1) := by decide +kernel
theorem dX12_lyings_33 : decode cX12_lyings 33 = .ok (.ireturn, 1) := by decide +kernel
theorem dX12_allLyings_0 : decode cX12_allLyings 0 = .ok (.aload_n 0, 1) := by decide +kernel
theorem dX12_allLyings_1 : decode cX12_allLyings 1 = .ok (.invokevirtual 125, 3) := by decide +kernel
theorem dX12_allLyings_4 : decode cX12_allLyings 4 = .ok (.aload_n 0, 1) := by decide +kernel
theorem dX12_allLyings_5 : decode cX12_allLyings 5 = .ok (.invokevirtual 212, 3) := by decide +kernel
theorem dX12_allLyings_8 : decode cX12_allLyings 8 = .ok (.aload_n 0, 1) := by decide +kernel
theorem dX12_allLyings_9 : decode cX12_allLyings 9 = .ok (.invokevirtual 229, 3) := by decide +kernel
theorem dX12_allLyings_12 : decode cX12_allLyings 12 = .ok (.ireturn, 1) := by decide +kernel
theorem dX12_many_0 : decode cX12_many 0 = .ok (.iconst 0, 1) := by decide +kernel
theorem dX12_many_1 : decode cX12_many 1 = .ok (.istore_n 1, 1) := by decide +kernel
theorem dX12_many_2 : decode cX12_many 2 = .ok (.iload_n 0, 1) := by decide +kernel
theorem dX12_many_3 : decode cX12_many 3 = .ok (.istore_n 2, 1) := by decide +kernel
theorem dX12_many_4 : decode cX12_many 4 = .ok (.iload_n 2, 1) := by decide +kernel
theorem dX12_many_5 : decode cX12_many 5 = .ok (.ifCond .eq 15, 3) := by decide +kernel
theorem dX12_many_8 : decode cX12_many 8 = .ok (.iinc 1 1, 3) := by decide +kernel
theorem dX12_many_11 : decode cX12_many 11 = .ok (.iload_n 2, 1) := by decide +kernel
theorem dX12_many_12 : decode cX12_many 12 = .ok (.iload_n 2, 1) := by decide +kernel
theorem dX12_many_13 : decode cX12_many 13 = .ok (.iconst 1, 1) := by decide +kernel
theorem dX12_many_14 : decode cX12_many 14 = .ok (.isub, 1) := by decide +kernel
theorem dX12_many_15 : decode cX12_many 15 = .ok (.iand, 1) := by decide +kernel
theorem dX12_many_16 : decode cX12_many 16 = .ok (.istore_n 2, 1) := by decide +kernel
theorem dX12_many_17 : decode cX12_many 17 = .ok (.goto (-13), 3) := by decide +kernel
theorem dX12_many_20 : decode cX12_many 20 = .ok (.iload_n 1, 1) := by decide +kernel
theorem dX12_many_21 : decode cX12_many 21 = .ok (.ireturn, 1) := by decide +kernel
theorem dX12_reach_0 : decode cX12_reach 0 = .ok (.iload_n 1, 1) := by decide +kernel
theorem dX12_reach_1 : decode cX12_reach 1 = .ok (.i2l, 1) := by decide +kernel
theorem dX12_reach_2 : decode cX12_reach 2 = .ok (.lconst 0, 1) := by decide +kernel
theorem dX12_reach_3 : decode cX12_reach 3 = .ok (.ldc2_w 232, 3) := by decide +kernel
theorem dX12_reach_6 : decode cX12_reach 6 = .ok (.invokestatic 62, 3) := by decide +kernel
theorem dX12_reach_9 : decode cX12_reach 9 = .ok (.ifCond .ne 8, 3) := by decide +kernel
theorem dX12_reach_12 : decode cX12_reach 12 = .ok (.aload_n 0, 1) := by decide +kernel
theorem dX12_reach_13 : decode cX12_reach 13 = .ok (.invokevirtual 121, 3) := by decide +kernel
theorem dX12_reach_16 : decode cX12_reach 16 = .ok (.ireturn, 1) := by decide +kernel
theorem dX12_reach_17 : decode cX12_reach 17 = .ok (.aload_n 0, 1) := by decide +kernel
theorem dX12_reach_18 : decode cX12_reach 18 = .ok (.invokevirtual 234, 3) := by decide +kernel
theorem dX12_reach_21 : decode cX12_reach 21 = .ok (.istore_n 2, 1) := by decide +kernel
theorem dX12_reach_22 : decode cX12_reach 22 = .ok (.iconst 1, 1) := by decide +kernel
theorem dX12_reach_23 : decode cX12_reach 23 = .ok (.aload_n 0, 1) := by decide +kernel
theorem dX12_reach_24 : decode cX12_reach 24 = .ok (.getfield 7, 3) := by decide +kernel
theorem dX12_reach_27 : decode cX12_reach 27 = .ok (.iconst 0, 1) := by decide +kernel
theorem dX12_reach_28 : decode cX12_reach 28 = .ok (.iaload, 1) := by decide +kernel
theorem dX12_reach_29 : decode cX12_reach 29 = .ok (.ishl, 1) := by decide +kernel
theorem dX12_reach_30 : decode cX12_reach 30 = .ok (.iconst 1, 1) := by decide +kernel
theorem dX12_reach_31 : decode cX12_reach 31 = .ok (.isub, 1) := by decide +kernel
theorem dX12_reach_32 : decode cX12_reach 32 = .ok (.istore_n 3, 1) := by decide +kernel
theorem dX12_reach_33 : decode cX12_reach 33 = .ok (.iload_n 3, 1) := by decide +kernel
theorem dX12_reach_34 : decode cX12_reach 34 = .ok (.istore 4, 2) := by decide +kernel
theorem dX12_reach_36 : decode cX12_reach 36 = .ok (.iconst 0, 1) := by decide +kernel
theorem dX12_reach_37 : decode cX12_reach 37 = .ok (.istore 5, 2) := by decide +kernel
theorem dX12_reach_39 : decode cX12_reach 39 = .ok (.iload 5, 2) := by decide +kernel
theorem dX12_reach_41 : decode cX12_reach 41 = .ok (.bipush 32, 2) := by decide +kernel
theorem dX12_reach_43 : decode cX12_reach 43 = .ok (.if_icmp .ge 49, 3) := by decide +kernel
theorem dX12_reach_46 : decode cX12_reach 46 = .ok (.iload_n 3, 1) := by decide +kernel
theorem dX12_reach_47 : decode cX12_reach 47 = .ok (.iload_n 2, 1) := by decide +kernel
theorem dX12_reach_48 : decode cX12_reach 48 = .ok (.iload 5, 2) := by decide +kernel
theorem dX12_reach_50 : decode cX12_reach 50 = .ok (.invokestatic 105, 3) := by decide +kernel
theorem dX12_reach_53 : decode cX12_reach 53 = .ok (.ifCond .eq 8, 3) := by decide +kernel
theorem dX12_reach_56 : decode cX12_reach 56 = .ok (.iload 5, 2) := by decide +kernel
theorem dX12_reach_58 : decode cX12_reach 58 = .ok (.goto 4, 3) := by decide +kernel
theorem dX12_reach_61 : decode cX12_reach 61 = .ok (.iconst (-1), 1) := by decide +kernel
theorem dX12_reach_62 : decode cX12_reach 62 = .ok (.iand, 1) := by decide +kernel
theorem dX12_reach_63 : decode cX12_reach 63 = .ok (.istore_n 3, 1) := by decide +kernel
theorem dX12_reach_64 : decode cX12_reach 64 = .ok (.iload 4, 2) := by decide +kernel
theorem dX12_reach_66 : decode cX12_reach 66 = .ok (.iload_n 2, 1) := by decide +kernel
theorem dX12_reach_67 : decode cX12_reach 67 = .ok (.iload 5, 2) := by decide +kernel
theorem dX12_reach_69 : decode cX12_reach 69 = .ok (.invokestatic 105, 3) := by decide +kernel
theorem dX12_reach_72 : decode cX12_reach 72 = .ok (.ifCond .eq 10, 3) := by decide +kernel
theorem dX12_reach_75 : decode cX12_reach 75 = .ok (.iload 5, 2) := by decide +kernel
theorem dX12_reach_77 : decode cX12_reach 77 = .ok (.iconst (-1), 1) := by decide +kernel
theorem dX12_reach_78 : decode cX12_reach 78 = .ok (.ixor, 1) := by decide +kernel
theorem dX12_reach_79 : decode cX12_reach 79 = .ok (.goto 4, 3) := by decide +kernel
theorem dX12_reach_82 : decode cX12_reach 82 = .ok (.iconst (-1), 1) := by decide +kernel
theorem dX12_reach_83 : decode cX12_reach 83 = .ok (.iand, 1) := by decide +kernel
theorem dX12_reach_84 : decode cX12_reach 84 = .ok (.istore 4, 2) := by decide +kernel
theorem dX12_reach_86 : decode cX12_reach 86 = .ok (.iinc 5 1, 3) := by decide +kernel
theorem dX12_reach_89 : decode cX12_reach 89 = .ok (.goto (-50), 3) := by decide +kernel
theorem dX12_reach_92 : decode cX12_reach 92 = .ok (.iload_n 1, 1) := by decide +kernel
theorem dX12_reach_93 : decode cX12_reach 93 = .ok (.ifCond .ne 10, 3) := by decide +kernel
theorem dX12_reach_96 : decode cX12_reach 96 = .ok (.aload_n 0, 1) := by decide +kernel
theorem dX12_reach_97 : decode cX12_reach 97 = .ok (.getfield 205, 3) := by decide +kernel
theorem dX12_reach_100 : decode cX12_reach 100 = .ok (.goto 26, 3) := by decide +kernel
theorem dX12_reach_103 : decode cX12_reach 103 = .ok (.iload_n 1, 1) := by decide +kernel
theorem dX12_reach_104 : decode cX12_reach 104 = .ok (.iconst 1, 1) := by decide +kernel
theorem dX12_reach_105 : decode cX12_reach 105 = .ok (.if_icmp .ne 10, 3) := by decide +kernel
theorem dX12_reach_108 : decode cX12_reach 108 = .ok (.iload_n 2, 1) := by decide +kernel
theorem dX12_reach_109 : decode cX12_reach 109 = .ok (.invokestatic 237, 3) := by decide +kernel
theorem dX12_reach_112 : decode cX12_reach 112 = .ok (.goto 14, 3) := by decide +kernel
theorem dX12_reach_115 : decode cX12_reach 115 = .ok (.iload_n 1, 1) := by decide +kernel
theorem dX12_reach_116 : decode cX12_reach 116 = .ok (.iconst 2, 1) := by decide +kernel
theorem dX12_reach_117 : decode cX12_reach 117 = .ok (.if_icmp .ne 7, 3) := by decide +kernel
theorem dX12_reach_120 : decode cX12_reach 120 = .ok (.iload_n 3, 1) := by decide +kernel
theorem dX12_reach_121 : decode cX12_reach 121 = .ok (.goto 5, 3) := by decide +kernel
theorem dX12_reach_124 : decode cX12_reach 124 = .ok (.iload 4, 2) := by decide +kernel
theorem dX12_reach_126 : decode cX12_reach 126 = .ok (.ireturn, 1) := by decide +kernel
theorem dX12_can_0 : decode cX12_can 0 = .ok (.iload_n 1, 1) := by decide +kernel
theorem dX12_can_1 : decode cX12_can 1 = .ok (.i2l, 1) := by decide +kernel
theorem dX12_can_2 : decode cX12_can 2 = .ok (.lconst 0, 1) := by decide +kernel
theorem dX12_can_3 : decode cX12_can 3 = .ok (.iconst 1, 1) := by decide +kernel
theorem dX12_can_4 : decode cX12_can 4 = .ok (.aload_n 0, 1) := by decide +kernel
theorem dX12_can_5 : decode cX12_can 5 = .ok (.getfield 7, 3) := by decide +kernel
theorem dX12_can_8 : decode cX12_can 8 = .ok (.iconst 0, 1) := by decide +kernel
theorem dX12_can_9 : decode cX12_can 9 = .ok (.iaload, 1) := by decide +kernel
theorem dX12_can_10 : decode cX12_can 10 = .ok (.ishl, 1) := by decide +kernel
theorem dX12_can_11 : decode cX12_can 11 = .ok (.iconst 1, 1) := by decide +kernel
theorem dX12_can_12 : decode cX12_can 12 = .ok (.isub, 1) := by decide +kernel
theorem dX12_can_13 : decode cX12_can 13 = .ok (.i2l, 1) := by decide +kernel
theorem dX12_can_14 : decode cX12_can 14 = .ok (.invokestatic 62, 3) := by decide +kernel
theorem dX12_can_17 : decode cX12_can 17 = .ok (.ifCond .eq 14, 3) := by decide +kernel
theorem dX12_can_20 : decode cX12_can 20 = .ok (.aload_n 0, 1) := by decide +kernel
theorem dX12_can_21 : decode cX12_can 21 = .ok (.invokevirtual 234, 3) := by decide +kernel
theorem dX12_can_24 : decode cX12_can 24 = .ok (.iload_n 1, 1) := by decide +kernel
theorem dX12_can_25 : decode cX12_can 25 = .ok (.ishr, 1) := by decide +kernel
theorem dX12_can_26 : decode cX12_can 26 = .ok (.iconst 1, 1) := by decide +kernel
theorem dX12_can_27 : decode cX12_can 27 = .ok (.iand, 1) := by decide +kernel
theorem dX12_can_28 : decode cX12_can 28 = .ok (.goto 7, 3) := by decide +kernel
theorem dX12_can_31 : decode cX12_can 31 = .ok (.aload_n 0, 1) := by decide +kernel
theorem dX12_can_32 : decode cX12_can 32 = .ok (.invokevirtual 121, 3) := by decide +kernel
theorem dX12_can_35 : decode cX12_can 35 = .ok (.ireturn, 1) := by decide +kernel
theorem dX12_closed_0 : decode cX12_closed 0 = .ok (.iload_n 1, 1) := by decide +kernel
theorem dX12_closed_1 : decode cX12_closed 1 = .ok (.invokestatic 226, 3) := by decide +kernel
theorem dX12_closed_4 : decode cX12_closed 4 = .ok (.ifCond .ne 8, 3) := by decide +kernel
theorem dX12_closed_7 : decode cX12_closed 7 = .ok (.aload_n 0, 1) := by decide +kernel
theorem dX12_closed_8 : decode cX12_closed 8 = .ok (.invokevirtual 121, 3) := by decide +kernel
theorem dX12_closed_11 : decode cX12_closed 11 = .ok (.ireturn, 1) := by decide +kernel
theorem dX12_closed_12 : decode cX12_closed 12 = .ok (.iconst 0, 1) := by decide +kernel
theorem dX12_closed_13 : decode cX12_closed 13 = .ok (.istore_n 2, 1) := by decide +kernel
theorem dX12_closed_14 : decode cX12_closed 14 = .ok (.iconst 0, 1) := by decide +kernel
theorem dX12_closed_15 : decode cX12_closed 15 = .ok (.istore_n 3, 1) := by decide +kernel
theorem dX12_closed_16 : decode cX12_closed 16 = .ok (.iload_n 3, 1) := by decide +kernel
theorem dX12_closed_17 : decode cX12_closed 17 = .ok (.aload_n 0, 1) := by decide +kernel
theorem dX12_closed_18 : decode cX12_closed 18 = .ok (.getfield 7, 3) := by decide +kernel
theorem dX12_closed_21 : decode cX12_closed 21 = .ok (.iconst 0, 1) := by decide +kernel
theorem dX12_closed_22 : decode cX12_closed 22 = .ok (.iaload, 1) := by decide +kernel
theorem dX12_closed_23 : decode cX12_closed 23 = .ok (.if_icmp .ge 28, 3) := by decide +kernel
theorem dX12_closed_26 : decode cX12_closed 26 = .ok (.iload_n 2, 1) := by decide +kernel
theorem dX12_closed_27 : decode cX12_closed 27 = .ok (.aload_n 0, 1) := by decide +kernel
theorem dX12_closed_28 : decode cX12_closed 28 = .ok (.iload_n 3, 1) := by decide +kernel
theorem dX12_closed_29 : decode cX12_closed 29 = .ok (.iload_n 1, 1) := by decide +kernel
theorem dX12_closed_30 : decode cX12_closed 30 = .ok (.invokevirtual 118, 3) := by decide +kernel
theorem dX12_closed_33 : decode cX12_closed 33 = .ok (.ifCond .eq 9, 3) := by decide +kernel
theorem dX12_closed_36 : decode cX12_closed 36 = .ok (.iconst 1, 1) := by decide +kernel
theorem dX12_closed_37 : decode cX12_closed 37 = .ok (.iload_n 3, 1) := by decide +kernel
theorem dX12_closed_38 : decode cX12_closed 38 = .ok (.ishl, 1) := by decide +kernel
theorem dX12_closed_39 : decode cX12_closed 39 = .ok (.goto 4, 3) := by decide +kernel
theorem dX12_closed_42 : decode cX12_closed 42 = .ok (.iconst 0, 1) := by decide +kernel
theorem dX12_closed_43 : decode cX12_closed 43 = .ok (.ior, 1) := by decide +kernel
theorem dX12_closed_44 : decode cX12_closed 44 = .ok (.istore_n 2, 1) := by decide +kernel
theorem dX12_closed_45 : decode cX12_closed 45 = .ok (.iinc 3 1, 3) := by decide +kernel
theorem dX12_closed_48 : decode cX12_closed 48 = .ok (.goto (-32), 3) := by decide +kernel
theorem dX12_closed_51 : decode cX12_closed 51 = .ok (.aload_n 0, 1) := by decide +kernel
theorem dX12_closed_52 : decode cX12_closed 52 = .ok (.invokevirtual 234, 3) := by decide +kernel
theorem dX12_closed_55 : decode cX12_closed 55 = .ok (.istore_n 3, 1) := by decide +kernel
theorem dX12_closed_56 : decode cX12_closed 56 = .ok (.iconst 0, 1) := by decide +kernel
theorem dX12_closed_57 : decode cX12_closed 57 = .ok (.istore 4, 2) := by decide +kernel
theorem dX12_closed_59 : decode cX12_closed 59 = .ok (.iconst 0, 1) := by decide +kernel
theorem dX12_closed_60 : decode cX12_closed 60 = .ok (.istore 5, 2) := by decide +kernel
theorem dX12_closed_62 : decode cX12_closed 62 = .ok (.iload 5, 2) := by decide +kernel
theorem dX12_closed_64 : decode cX12_closed 64 = .ok (.bipush 32, 2) := by decide +kernel
theorem dX12_closed_66 : decode cX12_closed 66 = .ok (.if_icmp .ge 33, 3) := by decide +kernel
theorem dX12_closed_69 : decode cX12_closed 69 = .ok (.iload_n 3, 1) := by decide +kernel
theorem dX12_closed_70 : decode cX12_closed 70 = .ok (.iload 5, 2) := by decide +kernel
theorem dX12_closed_72 : decode cX12_closed 72 = .ok (.invokestatic 105, 3) := by decide +kernel
theorem dX12_closed_75 : decode cX12_closed 75 = .ok (.ifCond .eq 14, 3) := by decide +kernel
theorem dX12_closed_78 : decode cX12_closed 78 = .ok (.iload 5, 2) := by decide +kernel
theorem dX12_closed_80 : decode cX12_closed 80 = .ok (.iload_n 2, 1) := by decide +kernel
theorem dX12_closed_81 : decode cX12_closed 81 = .ok (.iand, 1) := by decide +kernel
theorem dX12_closed_82 : decode cX12_closed 82 = .ok (.ifCond .ne 7, 3) := by decide +kernel
theorem dX12_closed_85 : decode cX12_closed 85 = .ok (.iconst 1, 1) := by decide +kernel
theorem dX12_closed_86 : decode cX12_closed 86 = .ok (.goto 5, 3) := by decide +kernel
theorem dX12_closed_89 : decode cX12_closed 89 = .ok (.iload 4, 2) := by decide +kernel
theorem dX12_closed_91 : decode cX12_closed 91 = .ok (.istore 4, 2) := by decide +kernel
theorem dX12_closed_93 : decode cX12_closed 93 = .ok (.iinc 5 1, 3) := by decide +kernel
theorem dX12_closed_96 : decode cX12_closed 96 = .ok (.goto (-34), 3) := by decide +kernel
theorem dX12_closed_99 : decode cX12_closed 99 = .ok (.iload 4, 2) := by decide +kernel
theorem dX12_closed_101 : decode cX12_closed 101 = .ok (.ireturn, 1) := by decide +kernel
theorem dX12_child_0 : decode cX12_child 0 = .ok (.aload_n 0, 1) := by decide +kernel
theorem dX12_child_1 : decode cX12_child 1 = .ok (.iload_n 1, 1) := by decide +kernel
theorem dX12_child_2 : decode cX12_child 2 = .ok (.invokevirtual 131, 3) := by decide +kernel
theorem dX12_child_5 : decode cX12_child 5 = .ok (.ifCond .ne 8, 3) := by decide +kernel
theorem dX12_child_8 : decode cX12_child 8 = .ok (.aload_n 0, 1) := by decide +kernel
theorem dX12_child_9 : decode cX12_child 9 = .ok (.invokevirtual 121, 3) := by decide +kernel
theorem dX12_child_12 : decode cX12_child 12 = .ok (.ireturn, 1) := by decide +kernel
theorem dX12_child_13 : decode cX12_child 13 = .ok (.aload_n 0, 1) := by decide +kernel
theorem dX12_child_14 : decode cX12_child 14 = .ok (.invokevirtual 234, 3) := by decide +kernel
theorem dX12_child_17 : decode cX12_child 17 = .ok (.istore_n 2, 1) := by decide +kernel
theorem dX12_child_18 : decode cX12_child 18 = .ok (.aload_n 0, 1) := by decide +kernel
theorem dX12_child_19 : decode cX12_child 19 = .ok (.dup, 1) := by decide +kernel
theorem dX12_child_20 : decode cX12_child 20 = .ok (.getfield 102, 3) := by decide +kernel
theorem dX12_child_23 : decode cX12_child 23 = .ok (.iconst 1, 1) := by decide +kernel
theorem dX12_child_24 : decode cX12_child 24 = .ok (.iload_n 1, 1) := by decide +kernel
theorem dX12_child_25 : decode cX12_child 25 = .ok (.ishl, 1) := by decide +kernel
theorem dX12_child_26 : decode cX12_child 26 = .ok (.iconst (-1), 1) := by decide +kernel
theorem dX12_child_27 : decode cX12_child 27 = .ok (.ixor, 1) := by decide +kernel
theorem dX12_child_28 : decode cX12_child 28 = .ok (.iand, 1) := by decide +kernel
theorem dX12_child_29 : decode cX12_child 29 = .ok (.putfield 102, 3) := by decide +kernel
theorem dX12_child_32 : decode cX12_child 32 = .ok (.aload_n 0, 1) := by decide +kernel
theorem dX12_child_33 : decode cX12_child 33 = .ok (.invokevirtual 212, 3) := by decide +kernel
theorem dX12_child_36 : decode cX12_child 36 = .ok (.iload_n 2, 1) := by decide +kernel
theorem dX12_child_37 : decode cX12_child 37 = .ok (.aload_n 0, 1) := by decide +kernel
theorem dX12_child_38 : decode cX12_child 38 = .ok (.invokevirtual 229, 3) := by decide +kernel
theorem dX12_child_41 : decode cX12_child 41 = .ok (.iconst (-1), 1) := by decide +kernel
theorem dX12_child_42 : decode cX12_child 42 = .ok (.ixor, 1) := by decide +kernel
theorem dX12_child_43 : decode cX12_child 43 = .ok (.iand, 1) := by decide +kernel
theorem dX12_child_44 : decode cX12_child 44 = .ok (.invokestatic 237, 3) := by decide +kernel
theorem dX12_child_47 : decode cX12_child 47 = .ok (.ireturn, 1) := by decide +kernel
theorem dX12_cut_0 : decode cX12_cut 0 = .ok (.aload_n 0, 1) := by decide +kernel
theorem dX12_cut_1 : decode cX12_cut 1 = .ok (.iload_n 1, 1) := by decide +kernel
theorem dX12_cut_2 : decode cX12_cut 2 = .ok (.invokevirtual 223, 3) := by decide +kernel
theorem dX12_cut_5 : decode cX12_cut 5 = .ok (.ifCond .eq 10, 3) := by decide +kernel
theorem dX12_cut_8 : decode cX12_cut 8 = .ok (.iload_n 2, 1) := by decide +kernel
theorem dX12_cut_9 : decode cX12_cut 9 = .ok (.invokestatic 226, 3) := by decide +kernel
theorem dX12_cut_12 : decode cX12_cut 12 = .ok (.ifCond .ne 8, 3) := by decide +kernel
theorem dX12_cut_15 : decode cX12_cut 15 = .ok (.aload_n 0, 1) := by decide +kernel
theorem dX12_cut_16 : decode cX12_cut 16 = .ok (.invokevirtual 121, 3) := by decide +kernel
theorem dX12_cut_19 : decode cX12_cut 19 = .ok (.ireturn, 1) := by decide +kernel
theorem dX12_cut_20 : decode cX12_cut 20 = .ok (.aload_n 0, 1) := by decide +kernel
theorem dX12_cut_21 : decode cX12_cut 21 = .ok (.invokevirtual 125, 3) := by decide +kernel
theorem dX12_cut_24 : decode cX12_cut 24 = .ok (.aload_n 0, 1) := by decide +kernel
theorem dX12_cut_25 : decode cX12_cut 25 = .ok (.iload_n 1, 1) := by decide +kernel
theorem dX12_cut_26 : decode cX12_cut 26 = .ok (.iload_n 2, 1) := by decide +kernel
theorem dX12_cut_27 : decode cX12_cut 27 = .ok (.invokevirtual 240, 3) := by decide +kernel
theorem dX12_cut_30 : decode cX12_cut 30 = .ok (.istore_n 3, 1) := by decide +kernel
theorem dX12_cut_31 : decode cX12_cut 31 = .ok (.iconst (-1), 1) := by decide +kernel
theorem dX12_cut_32 : decode cX12_cut 32 = .ok (.istore 4, 2) := by decide +kernel
theorem dX12_cut_34 : decode cX12_cut 34 = .ok (.iconst 0, 1) := by decide +kernel
theorem dX12_cut_35 : decode cX12_cut 35 = .ok (.istore 5, 2) := by decide +kernel
theorem dX12_cut_37 : decode cX12_cut 37 = .ok (.iload 5, 2) := by decide +kernel
theorem dX12_cut_39 : decode cX12_cut 39 = .ok (.aload_n 0, 1) := by decide +kernel
theorem dX12_cut_40 : decode cX12_cut 40 = .ok (.getfield 7, 3) := by decide +kernel
theorem dX12_cut_43 : decode cX12_cut 43 = .ok (.bipush 22, 2) := by decide +kernel
theorem dX12_cut_45 : decode cX12_cut 45 = .ok (.iaload, 1) := by decide +kernel
theorem dX12_cut_46 : decode cX12_cut 46 = .ok (.if_icmp .ge 112, 3) := by decide +kernel
theorem dX12_cut_49 : decode cX12_cut 49 = .ok (.aload_n 0, 1) := by decide +kernel
theorem dX12_cut_50 : decode cX12_cut 50 = .ok (.iconst 0, 1) := by decide +kernel
theorem dX12_cut_51 : decode cX12_cut 51 = .ok (.putfield 94, 3) := by decide +kernel
theorem dX12_cut_54 : decode cX12_cut 54 = .ok (.iconst 0, 1) := by decide +kernel
theorem dX12_cut_55 : decode cX12_cut 55 = .ok (.istore 6, 2) := by decide +kernel
theorem dX12_cut_57 : decode cX12_cut 57 = .ok (.iload 6, 2) := by decide +kernel
theorem dX12_cut_59 : decode cX12_cut 59 = .ok (.aload_n 0, 1) := by decide +kernel
theorem dX12_cut_60 : decode cX12_cut 60 = .ok (.getfield 7, 3) := by decide +kernel
theorem dX12_cut_63 : decode cX12_cut 63 = .ok (.bipush 22, 2) := by decide +kernel
theorem dX12_cut_65 : decode cX12_cut 65 = .ok (.iaload, 1) := by decide +kernel
theorem dX12_cut_66 : decode cX12_cut 66 = .ok (.if_icmp .ge 50, 3) := by decide +kernel
theorem dX12_cut_69 : decode cX12_cut 69 = .ok (.iload 6, 2) := by decide +kernel
theorem dX12_cut_71 : decode cX12_cut 71 = .ok (.iload 5, 2) := by decide +kernel
theorem dX12_cut_73 : decode cX12_cut 73 = .ok (.if_icmp .eq 37, 3) := by decide +kernel
theorem dX12_cut_76 : decode cX12_cut 76 = .ok (.aload_n 0, 1) := by decide +kernel
theorem dX12_cut_77 : decode cX12_cut 77 = .ok (.aload_n 0, 1) := by decide +kernel
theorem dX12_cut_78 : decode cX12_cut 78 = .ok (.getfield 7, 3) := by decide +kernel
theorem dX12_cut_81 : decode cX12_cut 81 = .ok (.bipush 23, 2) := by decide +kernel
theorem dX12_cut_83 : decode cX12_cut 83 = .ok (.iload 6, 2) := by decide +kernel
theorem dX12_cut_85 : decode cX12_cut 85 = .ok (.iadd, 1) := by decide +kernel
theorem dX12_cut_86 : decode cX12_cut 86 = .ok (.iaload, 1) := by decide +kernel
theorem dX12_cut_87 : decode cX12_cut 87 = .ok (.aload_n 0, 1) := by decide +kernel
theorem dX12_cut_88 : decode cX12_cut 88 = .ok (.getfield 7, 3) := by decide +kernel
theorem dX12_cut_91 : decode cX12_cut 91 = .ok (.bipush 25, 2) := by decide +kernel
theorem dX12_cut_93 : decode cX12_cut 93 = .ok (.iload 6, 2) := by decide +kernel
theorem dX12_cut_95 : decode cX12_cut 95 = .ok (.iadd, 1) := by decide +kernel
theorem dX12_cut_96 : decode cX12_cut 96 = .ok (.iaload, 1) := by decide +kernel
theorem dX12_cut_97 : decode cX12_cut 97 = .ok (.aload_n 0, 1) := by decide +kernel
theorem dX12_cut_98 : decode cX12_cut 98 = .ok (.getfield 7, 3) := by decide +kernel
theorem dX12_cut_101 : decode cX12_cut 101 = .ok (.bipush 27, 2) := by decide +kernel
theorem dX12_cut_103 : decode cX12_cut 103 = .ok (.iload 6, 2) := by decide +kernel
theorem dX12_cut_105 : decode cX12_cut 105 = .ok (.iadd, 1) := by decide +kernel
theorem dX12_cut_106 : decode cX12_cut 106 = .ok (.iaload, 1) := by decide +kernel
theorem dX12_cut_107 : decode cX12_cut 107 = .ok (.invokevirtual 98, 3) := by decide +kernel
theorem dX12_cut_110 : decode cX12_cut 110 = .ok (.iinc 6 1, 3) := by decide +kernel
theorem dX12_cut_113 : decode cX12_cut 113 = .ok (.goto (-56), 3) := by decide +kernel
theorem dX12_cut_116 : decode cX12_cut 116 = .ok (.aload_n 0, 1) := by decide +kernel
theorem dX12_cut_117 : decode cX12_cut 117 = .ok (.iload_n 1, 1) := by decide +kernel
theorem dX12_cut_118 : decode cX12_cut 118 = .ok (.iload_n 2, 1) := by decide +kernel
theorem dX12_cut_119 : decode cX12_cut 119 = .ok (.invokevirtual 240, 3) := by decide +kernel
theorem dX12_cut_122 : decode cX12_cut 122 = .ok (.istore 6, 2) := by decide +kernel
theorem dX12_cut_124 : decode cX12_cut 124 = .ok (.iload 6, 2) := by decide +kernel
theorem dX12_cut_126 : decode cX12_cut 126 = .ok (.iload_n 3, 1) := by decide +kernel
theorem dX12_cut_127 : decode cX12_cut 127 = .ok (.if_icmp .ge 8, 3) := by decide +kernel
theorem dX12_cut_130 : decode cX12_cut 130 = .ok (.iload 5, 2) := by decide +kernel
theorem dX12_cut_132 : decode cX12_cut 132 = .ok (.goto 5, 3) := by decide +kernel
theorem dX12_cut_135 : decode cX12_cut 135 = .ok (.iload 4, 2) := by decide +kernel
theorem dX12_cut_137 : decode cX12_cut 137 = .ok (.istore 4, 2) := by decide +kernel
theorem dX12_cut_139 : decode cX12_cut 139 = .ok (.iload 6, 2) := by decide +kernel
theorem dX12_cut_141 : decode cX12_cut 141 = .ok (.iload_n 3, 1) := by decide +kernel
theorem dX12_cut_142 : decode cX12_cut 142 = .ok (.if_icmp .ge 8, 3) := by decide +kernel
theorem dX12_cut_145 : decode cX12_cut 145 = .ok (.iload 6, 2) := by decide +kernel
theorem dX12_cut_147 : decode cX12_cut 147 = .ok (.goto 4, 3) := by decide +kernel
theorem dX12_cut_150 : decode cX12_cut 150 = .ok (.iload_n 3, 1) := by decide +kernel
theorem dX12_cut_151 : decode cX12_cut 151 = .ok (.istore_n 3, 1) := by decide +kernel
theorem dX12_cut_152 : decode cX12_cut 152 = .ok (.iinc 5 1, 3) := by decide +kernel
theorem dX12_cut_155 : decode cX12_cut 155 = .ok (.goto (-118), 3) := by decide +kernel
theorem dX12_cut_158 : decode cX12_cut 158 = .ok (.iload 4, 2) := by decide +kernel
theorem dX12_cut_160 : decode cX12_cut 160 = .ok (.ireturn, 1) := by decide +kernel
theorem dX12_tie_0 : decode cX12_tie 0 = .ok (.aload_n 0, 1) := by decide +kernel
theorem dX12_tie_1 : decode cX12_tie 1 = .ok (.iload_n 1, 1) := by decide +kernel
theorem dX12_tie_2 : decode cX12_tie 2 = .ok (.invokevirtual 223, 3) := by decide +kernel
theorem dX12_tie_5 : decode cX12_tie 5 = .ok (.ifCond .eq 10, 3) := by decide +kernel
theorem dX12_tie_8 : decode cX12_tie 8 = .ok (.iload_n 2, 1) := by decide +kernel
theorem dX12_tie_9 : decode cX12_tie 9 = .ok (.invokestatic 226, 3) := by decide +kernel
theorem dX12_tie_12 : decode cX12_tie 12 = .ok (.ifCond .ne 8, 3) := by decide +kernel
theorem dX12_tie_15 : decode cX12_tie 15 = .ok (.aload_n 0, 1) := by decide +kernel
theorem dX12_tie_16 : decode cX12_tie 16 = .ok (.invokevirtual 121, 3) := by decide +kernel
theorem dX12_tie_19 : decode cX12_tie 19 = .ok (.ireturn, 1) := by decide +kernel
theorem dX12_tie_20 : decode cX12_tie 20 = .ok (.aload_n 0, 1) := by decide +kernel
theorem dX12_tie_21 : decode cX12_tie 21 = .ok (.invokevirtual 125, 3) := by decide +kernel
theorem dX12_tie_24 : decode cX12_tie 24 = .ok (.aload_n 0, 1) := by decide +kernel
theorem dX12_tie_25 : decode cX12_tie 25 = .ok (.iload_n 1, 1) := by decide +kernel
theorem dX12_tie_26 : decode cX12_tie 26 = .ok (.iload_n 2, 1) := by decide +kernel
theorem dX12_tie_27 : decode cX12_tie 27 = .ok (.invokevirtual 240, 3) := by decide +kernel
theorem dX12_tie_30 : decode cX12_tie 30 = .ok (.istore_n 3, 1) := by decide +kernel
theorem dX12_tie_31 : decode cX12_tie 31 = .ok (.iconst (-1), 1) := by decide +kernel
theorem dX12_tie_32 : decode cX12_tie 32 = .ok (.istore 4, 2) := by decide +kernel
theorem dX12_tie_34 : decode cX12_tie 34 = .ok (.iconst 0, 1) := by decide +kernel
theorem dX12_tie_35 : decode cX12_tie 35 = .ok (.istore 5, 2) := by decide +kernel
theorem dX12_tie_37 : decode cX12_tie 37 = .ok (.iload 5, 2) := by decide +kernel
theorem dX12_tie_39 : decode cX12_tie 39 = .ok (.aload_n 0, 1) := by decide +kernel
theorem dX12_tie_40 : decode cX12_tie 40 = .ok (.getfield 7, 3) := by decide +kernel
theorem dX12_tie_43 : decode cX12_tie 43 = .ok (.iconst 0, 1) := by decide +kernel
theorem dX12_tie_44 : decode cX12_tie 44 = .ok (.iaload, 1) := by decide +kernel
theorem dX12_tie_45 : decode cX12_tie 45 = .ok (.if_icmp .ge 107, 3) := by decide +kernel
theorem dX12_tie_48 : decode cX12_tie 48 = .ok (.iload 5, 2) := by decide +kernel
theorem dX12_tie_50 : decode cX12_tie 50 = .ok (.iconst 1, 1) := by decide +kernel
theorem dX12_tie_51 : decode cX12_tie 51 = .ok (.iadd, 1) := by decide +kernel
theorem dX12_tie_52 : decode cX12_tie 52 = .ok (.istore 6, 2) := by decide +kernel
theorem dX12_tie_54 : decode cX12_tie 54 = .ok (.iload 6, 2) := by decide +kernel
theorem dX12_tie_56 : decode cX12_tie 56 = .ok (.aload_n 0, 1) := by decide +kernel
theorem dX12_tie_57 : decode cX12_tie 57 = .ok (.getfield 7, 3) := by decide +kernel
theorem dX12_tie_60 : decode cX12_tie 60 = .ok (.iconst 0, 1) := by decide +kernel
theorem dX12_tie_61 : decode cX12_tie 61 = .ok (.iaload, 1) := by decide +kernel
theorem dX12_tie_62 : decode cX12_tie 62 = .ok (.if_icmp .ge 84, 3) := by decide +kernel
theorem dX12_tie_65 : decode cX12_tie 65 = .ok (.aload_n 0, 1) := by decide +kernel
theorem dX12_tie_66 : decode cX12_tie 66 = .ok (.iconst 0, 1) := by decide +kernel
theorem dX12_tie_67 : decode cX12_tie 67 = .ok (.iload 5, 2) := by decide +kernel
theorem dX12_tie_69 : decode cX12_tie 69 = .ok (.invokevirtual 74, 3) := by decide +kernel
theorem dX12_tie_72 : decode cX12_tie 72 = .ok (.ifCond .ne 68, 3) := by decide +kernel
theorem dX12_tie_75 : decode cX12_tie 75 = .ok (.aload_n 0, 1) := by decide +kernel
theorem dX12_tie_76 : decode cX12_tie 76 = .ok (.iconst 0, 1) := by decide +kernel
theorem dX12_tie_77 : decode cX12_tie 77 = .ok (.iload 6, 2) := by decide +kernel
theorem dX12_tie_79 : decode cX12_tie 79 = .ok (.invokevirtual 74, 3) := by decide +kernel
theorem dX12_tie_82 : decode cX12_tie 82 = .ok (.ifCond .ne 58, 3) := by decide +kernel
theorem dX12_tie_85 : decode cX12_tie 85 = .ok (.aload_n 0, 1) := by decide +kernel
theorem dX12_tie_86 : decode cX12_tie 86 = .ok (.invokevirtual 125, 3) := by decide +kernel
theorem dX12_tie_89 : decode cX12_tie 89 = .ok (.aload_n 0, 1) := by decide +kernel
theorem dX12_tie_90 : decode cX12_tie 90 = .ok (.iload 5, 2) := by decide +kernel
theorem dX12_tie_92 : decode cX12_tie 92 = .ok (.iload 6, 2) := by decide +kernel
theorem dX12_tie_94 : decode cX12_tie 94 = .ok (.iconst 0, 1) := by decide +kernel
theorem dX12_tie_95 : decode cX12_tie 95 = .ok (.invokevirtual 98, 3) := by decide +kernel
theorem dX12_tie_98 : decode cX12_tie 98 = .ok (.aload_n 0, 1) := by decide +kernel
theorem dX12_tie_99 : decode cX12_tie 99 = .ok (.iload_n 1, 1) := by decide +kernel
theorem dX12_tie_100 : decode cX12_tie 100 = .ok (.iload_n 2, 1) := by decide +kernel
theorem dX12_tie_101 : decode cX12_tie 101 = .ok (.invokevirtual 240, 3) := by decide +kernel
theorem dX12_tie_104 : decode cX12_tie 104 = .ok (.istore 7, 2) := by decide +kernel
theorem dX12_tie_106 : decode cX12_tie 106 = .ok (.iload 7, 2) := by decide +kernel
theorem dX12_tie_108 : decode cX12_tie 108 = .ok (.iload_n 3, 1) := by decide +kernel
theorem dX12_tie_109 : decode cX12_tie 109 = .ok (.if_icmp .ge 14, 3) := by decide +kernel
theorem dX12_tie_112 : decode cX12_tie 112 = .ok (.bipush 10, 2) := by decide +kernel
theorem dX12_tie_114 : decode cX12_tie 114 = .ok (.iload 5, 2) := by decide +kernel
theorem dX12_tie_116 : decode cX12_tie 116 = .ok (.imul, 1) := by decide +kernel
theorem dX12_tie_117 : decode cX12_tie 117 = .ok (.iload 6, 2) := by decide +kernel
theorem dX12_tie_119 : decode cX12_tie 119 = .ok (.iadd, 1) := by decide +kernel
theorem dX12_tie_120 : decode cX12_tie 120 = .ok (.goto 5, 3) := by decide +kernel
theorem dX12_tie_123 : decode cX12_tie 123 = .ok (.iload 4, 2) := by decide +kernel
theorem dX12_tie_125 : decode cX12_tie 125 = .ok (.istore 4, 2) := by decide +kernel
theorem dX12_tie_127 : decode cX12_tie 127 = .ok (.iload 7, 2) := by decide +kernel
theorem dX12_tie_129 : decode cX12_tie 129 = .ok (.iload_n 3, 1) := by decide +kernel
theorem dX12_tie_130 : decode cX12_tie 130 = .ok (.if_icmp .ge 8, 3) := by decide +kernel
theorem dX12_tie_133 : decode cX12_tie 133 = .ok (.iload 7, 2) := by decide +kernel
theorem dX12_tie_135 : decode cX12_tie 135 = .ok (.goto 4, 3) := by decide +kernel
theorem dX12_tie_138 : decode cX12_tie 138 = .ok (.iload_n 3, 1) := by decide +kernel
theorem dX12_tie_139 : decode cX12_tie 139 = .ok (.istore_n 3, 1) := by decide +kernel
theorem dX12_tie_140 : decode cX12_tie 140 = .ok (.iinc 6 1, 3) := by decide +kernel
theorem dX12_tie_143 : decode cX12_tie 143 = .ok (.goto (-89), 3) := by decide +kernel
theorem dX12_tie_146 : decode cX12_tie 146 = .ok (.iinc 5 1, 3) := by decide +kernel
theorem dX12_tie_149 : decode cX12_tie 149 = .ok (.goto (-112), 3) := by decide +kernel
theorem dX12_tie_152 : decode cX12_tie 152 = .ok (.iload 4, 2) := by decide +kernel
theorem dX12_tie_154 : decode cX12_tie 154 = .ok (.ireturn, 1) := by decide +kernel
theorem dX12_stone_0 : decode cX12_stone 0 = .ok (.aload_n 0, 1) := by decide +kernel
theorem dX12_stone_1 : decode cX12_stone 1 = .ok (.iload_n 1, 1) := by decide +kernel
theorem dX12_stone_2 : decode cX12_stone 2 = .ok (.invokevirtual 223, 3) := by decide +kernel
theorem dX12_stone_5 : decode cX12_stone 5 = .ok (.ifCond .eq 22, 3) := by decide +kernel
theorem dX12_stone_8 : decode cX12_stone 8 = .ok (.iload_n 2, 1) := by decide +kernel
theorem dX12_stone_9 : decode cX12_stone 9 = .ok (.invokestatic 226, 3) := by decide +kernel
theorem dX12_stone_12 : decode cX12_stone 12 = .ok (.ifCond .eq 15, 3) := by decide +kernel
theorem dX12_stone_15 : decode cX12_stone 15 = .ok (.iload_n 3, 1) := by decide +kernel
theorem dX12_stone_16 : decode cX12_stone 16 = .ok (.i2l, 1) := by decide +kernel
theorem dX12_stone_17 : decode cX12_stone 17 = .ok (.lconst 1, 1) := by decide +kernel
theorem dX12_stone_18 : decode cX12_stone 18 = .ok (.ldc2_w 72, 3) := by decide +kernel
theorem dX12_stone_21 : decode cX12_stone 21 = .ok (.invokestatic 62, 3) := by decide +kernel
theorem dX12_stone_24 : decode cX12_stone 24 = .ok (.ifCond .ne 8, 3) := by decide +kernel
theorem dX12_stone_27 : decode cX12_stone 27 = .ok (.aload_n 0, 1) := by decide +kernel
theorem dX12_stone_28 : decode cX12_stone 28 = .ok (.invokevirtual 121, 3) := by decide +kernel
theorem dX12_stone_31 : decode cX12_stone 31 = .ok (.ireturn, 1) := by decide +kernel
theorem dX12_stone_32 : decode cX12_stone 32 = .ok (.aload_n 0, 1) := by decide +kernel
theorem dX12_stone_33 : decode cX12_stone 33 = .ok (.invokevirtual 125, 3) := by decide +kernel
theorem dX12_stone_36 : decode cX12_stone 36 = .ok (.aload_n 0, 1) := by decide +kernel
theorem dX12_stone_37 : decode cX12_stone 37 = .ok (.iload_n 1, 1) := by decide +kernel
theorem dX12_stone_38 : decode cX12_stone 38 = .ok (.iload_n 2, 1) := by decide +kernel
theorem dX12_stone_39 : decode cX12_stone 39 = .ok (.invokevirtual 240, 3) := by decide +kernel
theorem dX12_stone_42 : decode cX12_stone 42 = .ok (.istore 4, 2) := by decide +kernel
theorem dX12_stone_44 : decode cX12_stone 44 = .ok (.iconst (-1), 1) := by decide +kernel
theorem dX12_stone_45 : decode cX12_stone 45 = .ok (.istore 5, 2) := by decide +kernel
theorem dX12_stone_47 : decode cX12_stone 47 = .ok (.iconst 0, 1) := by decide +kernel
theorem dX12_stone_48 : decode cX12_stone 48 = .ok (.istore 6, 2) := by decide +kernel
theorem dX12_stone_50 : decode cX12_stone 50 = .ok (.iload 6, 2) := by decide +kernel
theorem dX12_stone_52 : decode cX12_stone 52 = .ok (.aload_n 0, 1) := by decide +kernel
theorem dX12_stone_53 : decode cX12_stone 53 = .ok (.getfield 7, 3) := by decide +kernel
theorem dX12_stone_56 : decode cX12_stone 56 = .ok (.iconst 0, 1) := by decide +kernel
theorem dX12_stone_57 : decode cX12_stone 57 = .ok (.iaload, 1) := by decide +kernel
theorem dX12_stone_58 : decode cX12_stone 58 = .ok (.if_icmp .ge 64, 3) := by decide +kernel
theorem dX12_stone_61 : decode cX12_stone 61 = .ok (.aload_n 0, 1) := by decide +kernel
theorem dX12_stone_62 : decode cX12_stone 62 = .ok (.invokevirtual 125, 3) := by decide +kernel
theorem dX12_stone_65 : decode cX12_stone 65 = .ok (.aload_n 0, 1) := by decide +kernel
theorem dX12_stone_66 : decode cX12_stone 66 = .ok (.getfield 23, 3) := by decide +kernel
theorem dX12_stone_69 : decode cX12_stone 69 = .ok (.iload 6, 2) := by decide +kernel
theorem dX12_stone_71 : decode cX12_stone 71 = .ok (.dup2, 1) := by decide +kernel
theorem dX12_stone_72 : decode cX12_stone 72 = .ok (.iaload, 1) := by decide +kernel
theorem dX12_stone_73 : decode cX12_stone 73 = .ok (.iload_n 3, 1) := by decide +kernel
theorem dX12_stone_74 : decode cX12_stone 74 = .ok (.iadd, 1) := by decide +kernel
theorem dX12_stone_75 : decode cX12_stone 75 = .ok (.iastore, 1) := by decide +kernel
theorem dX12_stone_76 : decode cX12_stone 76 = .ok (.aload_n 0, 1) := by decide +kernel
theorem dX12_stone_77 : decode cX12_stone 77 = .ok (.iload_n 1, 1) := by decide +kernel
theorem dX12_stone_78 : decode cX12_stone 78 = .ok (.iload_n 2, 1) := by decide +kernel
theorem dX12_stone_79 : decode cX12_stone 79 = .ok (.invokevirtual 240, 3) := by decide +kernel
theorem dX12_stone_82 : decode cX12_stone 82 = .ok (.istore 7, 2) := by decide +kernel
theorem dX12_stone_84 : decode cX12_stone 84 = .ok (.iload 7, 2) := by decide +kernel
theorem dX12_stone_86 : decode cX12_stone 86 = .ok (.iload 4, 2) := by decide +kernel
theorem dX12_stone_88 : decode cX12_stone 88 = .ok (.if_icmp .ge 8, 3) := by decide +kernel
theorem dX12_stone_91 : decode cX12_stone 91 = .ok (.iload 6, 2) := by decide +kernel
theorem dX12_stone_93 : decode cX12_stone 93 = .ok (.goto 5, 3) := by decide +kernel
theorem dX12_stone_96 : decode cX12_stone 96 = .ok (.iload 5, 2) := by decide +kernel
theorem dX12_stone_98 : decode cX12_stone 98 = .ok (.istore 5, 2) := by decide +kernel
theorem dX12_stone_100 : decode cX12_stone 100 = .ok (.iload 7, 2) := by decide +kernel
theorem dX12_stone_102 : decode cX12_stone 102 = .ok (.iload 4, 2) := by decide +kernel
theorem dX12_stone_104 : decode cX12_stone 104 = .ok (.if_icmp .ge 8, 3) := by decide +kernel
theorem dX12_stone_107 : decode cX12_stone 107 = .ok (.iload 7, 2) := by decide +kernel
theorem dX12_stone_109 : decode cX12_stone 109 = .ok (.goto 5, 3) := by decide +kernel
theorem dX12_stone_112 : decode cX12_stone 112 = .ok (.iload 4, 2) := by decide +kernel
theorem dX12_stone_114 : decode cX12_stone 114 = .ok (.istore 4, 2) := by decide +kernel
theorem dX12_stone_116 : decode cX12_stone 116 = .ok (.iinc 6 1, 3) := by decide +kernel
theorem dX12_stone_119 : decode cX12_stone 119 = .ok (.goto (-69), 3) := by decide +kernel
theorem dX12_stone_122 : decode cX12_stone 122 = .ok (.iload 5, 2) := by decide +kernel
theorem dX12_stone_124 : decode cX12_stone 124 = .ok (.ireturn, 1) := by decide +kernel
theorem dX12_keep_0 : decode cX12_keep 0 = .ok (.aload_n 0, 1) := by decide +kernel
theorem dX12_keep_1 : decode cX12_keep 1 = .ok (.iload_n 1, 1) := by decide +kernel
theorem dX12_keep_2 : decode cX12_keep 2 = .ok (.invokevirtual 131, 3) := by decide +kernel
theorem dX12_keep_5 : decode cX12_keep 5 = .ok (.ifCond .eq 22, 3) := by decide +kernel
theorem dX12_keep_8 : decode cX12_keep 8 = .ok (.iload_n 2, 1) := by decide +kernel
theorem dX12_keep_9 : decode cX12_keep 9 = .ok (.invokestatic 226, 3) := by decide +kernel
theorem dX12_keep_12 : decode cX12_keep 12 = .ok (.ifCond .eq 15, 3) := by decide +kernel
theorem dX12_keep_15 : decode cX12_keep 15 = .ok (.iload_n 3, 1) := by decide +kernel
theorem dX12_keep_16 : decode cX12_keep 16 = .ok (.i2l, 1) := by decide +kernel
theorem dX12_keep_17 : decode cX12_keep 17 = .ok (.lconst 1, 1) := by decide +kernel
theorem dX12_keep_18 : decode cX12_keep 18 = .ok (.ldc2_w 72, 3) := by decide +kernel
theorem dX12_keep_21 : decode cX12_keep 21 = .ok (.invokestatic 62, 3) := by decide +kernel
theorem dX12_keep_24 : decode cX12_keep 24 = .ok (.ifCond .ne 8, 3) := by decide +kernel
theorem dX12_keep_27 : decode cX12_keep 27 = .ok (.aload_n 0, 1) := by decide +kernel
theorem dX12_keep_28 : decode cX12_keep 28 = .ok (.invokevirtual 121, 3) := by decide +kernel
theorem dX12_keep_31 : decode cX12_keep 31 = .ok (.ireturn, 1) := by decide +kernel
theorem dX12_keep_32 : decode cX12_keep 32 = .ok (.iconst (-1), 1) := by decide +kernel
theorem dX12_keep_33 : decode cX12_keep 33 = .ok (.istore 4, 2) := by decide +kernel
theorem dX12_keep_35 : decode cX12_keep 35 = .ok (.iconst 0, 1) := by decide +kernel
theorem dX12_keep_36 : decode cX12_keep 36 = .ok (.istore 5, 2) := by decide +kernel
theorem dX12_keep_38 : decode cX12_keep 38 = .ok (.iload 5, 2) := by decide +kernel
theorem dX12_keep_40 : decode cX12_keep 40 = .ok (.iconst 1, 1) := by decide +kernel
theorem dX12_keep_41 : decode cX12_keep 41 = .ok (.aload_n 0, 1) := by decide +kernel
theorem dX12_keep_42 : decode cX12_keep 42 = .ok (.getfield 7, 3) := by decide +kernel
theorem dX12_keep_45 : decode cX12_keep 45 = .ok (.iconst 0, 1) := by decide +kernel
theorem dX12_keep_46 : decode cX12_keep 46 = .ok (.iaload, 1) := by decide +kernel
theorem dX12_keep_47 : decode cX12_keep 47 = .ok (.ishl, 1) := by decide +kernel
theorem dX12_keep_48 : decode cX12_keep 48 = .ok (.if_icmp .ge 104, 3) := by decide +kernel
theorem dX12_keep_51 : decode cX12_keep 51 = .ok (.iload 4, 2) := by decide +kernel
theorem dX12_keep_53 : decode cX12_keep 53 = .ok (.iconst (-1), 1) := by decide +kernel
theorem dX12_keep_54 : decode cX12_keep 54 = .ok (.if_icmp .eq 16, 3) := by decide +kernel
theorem dX12_keep_57 : decode cX12_keep 57 = .ok (.iload 5, 2) := by decide +kernel
theorem dX12_keep_59 : decode cX12_keep 59 = .ok (.invokestatic 243, 3) := by decide +kernel
theorem dX12_keep_62 : decode cX12_keep 62 = .ok (.iload 4, 2) := by decide +kernel
theorem dX12_keep_64 : decode cX12_keep 64 = .ok (.invokestatic 243, 3) := by decide +kernel
theorem dX12_keep_67 : decode cX12_keep 67 = .ok (.if_icmp .ge 79, 3) := by decide +kernel
theorem dX12_keep_70 : decode cX12_keep 70 = .ok (.aload_n 0, 1) := by decide +kernel
theorem dX12_keep_71 : decode cX12_keep 71 = .ok (.invokevirtual 125, 3) := by decide +kernel
theorem dX12_keep_74 : decode cX12_keep 74 = .ok (.aload_n 0, 1) := by decide +kernel
theorem dX12_keep_75 : decode cX12_keep 75 = .ok (.iconst 1, 1) := by decide +kernel
theorem dX12_keep_76 : decode cX12_keep 76 = .ok (.iload_n 1, 1) := by decide +kernel
theorem dX12_keep_77 : decode cX12_keep 77 = .ok (.ishl, 1) := by decide +kernel
theorem dX12_keep_78 : decode cX12_keep 78 = .ok (.putfield 102, 3) := by decide +kernel
theorem dX12_keep_81 : decode cX12_keep 81 = .ok (.iconst 0, 1) := by decide +kernel
theorem dX12_keep_82 : decode cX12_keep 82 = .ok (.istore 6, 2) := by decide +kernel
theorem dX12_keep_84 : decode cX12_keep 84 = .ok (.iload 6, 2) := by decide +kernel
theorem dX12_keep_86 : decode cX12_keep 86 = .ok (.aload_n 0, 1) := by decide +kernel
theorem dX12_keep_87 : decode cX12_keep 87 = .ok (.getfield 7, 3) := by decide +kernel
theorem dX12_keep_90 : decode cX12_keep 90 = .ok (.iconst 0, 1) := by decide +kernel
theorem dX12_keep_91 : decode cX12_keep 91 = .ok (.iaload, 1) := by decide +kernel
theorem dX12_keep_92 : decode cX12_keep 92 = .ok (.if_icmp .ge 34, 3) := by decide +kernel
theorem dX12_keep_95 : decode cX12_keep 95 = .ok (.aload_n 0, 1) := by decide +kernel
theorem dX12_keep_96 : decode cX12_keep 96 = .ok (.getfield 23, 3) := by decide +kernel
theorem dX12_keep_99 : decode cX12_keep 99 = .ok (.iload 6, 2) := by decide +kernel
theorem dX12_keep_101 : decode cX12_keep 101 = .ok (.dup2, 1) := by decide +kernel
theorem dX12_keep_102 : decode cX12_keep 102 = .ok (.iaload, 1) := by decide +kernel
theorem dX12_keep_103 : decode cX12_keep 103 = .ok (.iload 5, 2) := by decide +kernel
theorem dX12_keep_105 : decode cX12_keep 105 = .ok (.iload 6, 2) := by decide +kernel
theorem dX12_keep_107 : decode cX12_keep 107 = .ok (.invokestatic 105, 3) := by decide +kernel
theorem dX12_keep_110 : decode cX12_keep 110 = .ok (.ifCond .eq 7, 3) := by decide +kernel
theorem dX12_keep_113 : decode cX12_keep 113 = .ok (.iload_n 3, 1) := by decide +kernel
theorem dX12_keep_114 : decode cX12_keep 114 = .ok (.goto 4, 3) := by decide +kernel
theorem dX12_keep_117 : decode cX12_keep 117 = .ok (.iconst 0, 1) := by decide +kernel
theorem dX12_keep_118 : decode cX12_keep 118 = .ok (.iadd, 1) := by decide +kernel
theorem dX12_keep_119 : decode cX12_keep 119 = .ok (.iastore, 1) := by decide +kernel
theorem dX12_keep_120 : decode cX12_keep 120 = .ok (.iinc 6 1, 3) := by decide +kernel
theorem dX12_keep_123 : decode cX12_keep 123 = .ok (.goto (-39), 3) := by decide +kernel
theorem dX12_keep_126 : decode cX12_keep 126 = .ok (.aload_n 0, 1) := by decide +kernel
theorem dX12_keep_127 : decode cX12_keep 127 = .ok (.iconst 1, 1) := by decide +kernel
theorem dX12_keep_128 : decode cX12_keep 128 = .ok (.iload_n 1, 1) := by decide +kernel
theorem dX12_keep_129 : decode cX12_keep 129 = .ok (.ishl, 1) := by decide +kernel
theorem dX12_keep_130 : decode cX12_keep 130 = .ok (.iload_n 2, 1) := by decide +kernel
theorem dX12_keep_131 : decode cX12_keep 131 = .ok (.invokevirtual 215, 3) := by decide +kernel
theorem dX12_keep_134 : decode cX12_keep 134 = .ok (.ifCond .ge 8, 3) := by decide +kernel
theorem dX12_keep_137 : decode cX12_keep 137 = .ok (.iload 5, 2) := by decide +kernel
theorem dX12_keep_139 : decode cX12_keep 139 = .ok (.goto 5, 3) := by decide +kernel
theorem dX12_keep_142 : decode cX12_keep 142 = .ok (.iload 4, 2) := by decide +kernel
theorem dX12_keep_144 : decode cX12_keep 144 = .ok (.istore 4, 2) := by decide +kernel
theorem dX12_keep_146 : decode cX12_keep 146 = .ok (.iinc 5 1, 3) := by decide +kernel
theorem dX12_keep_149 : decode cX12_keep 149 = .ok (.goto (-111), 3) := by decide +kernel
theorem dX12_keep_152 : decode cX12_keep 152 = .ok (.iload 4, 2) := by decide +kernel
theorem dX12_keep_154 : decode cX12_keep 154 = .ok (.ireturn, 1) := by decide +kernel
theorem dX12_wet_0 : decode cX12_wet 0 = .ok (.aload_n 0, 1) := by decide +kernel
theorem dX12_wet_1 : decode cX12_wet 1 = .ok (.iload_n 1, 1) := by decide +kernel
theorem dX12_wet_2 : decode cX12_wet 2 = .ok (.invokevirtual 131, 3) := by decide +kernel
theorem dX12_wet_5 : decode cX12_wet 5 = .ok (.ifCond .eq 44, 3) := by decide +kernel
theorem dX12_wet_8 : decode cX12_wet 8 = .ok (.iload_n 2, 1) := by decide +kernel
theorem dX12_wet_9 : decode cX12_wet 9 = .ok (.i2l, 1) := by decide +kernel
theorem dX12_wet_10 : decode cX12_wet 10 = .ok (.lconst 0, 1) := by decide +kernel
theorem dX12_wet_11 : decode cX12_wet 11 = .ok (.ldc2_w 245, 3) := by decide +kernel
theorem dX12_wet_14 : decode cX12_wet 14 = .ok (.invokestatic 62, 3) := by decide +kernel
theorem dX12_wet_17 : decode cX12_wet 17 = .ok (.ifCond .eq 32, 3) := by decide +kernel
theorem dX12_wet_20 : decode cX12_wet 20 = .ok (.aload_n 0, 1) := by decide +kernel
theorem dX12_wet_21 : decode cX12_wet 21 = .ok (.iload_n 3, 1) := by decide +kernel
theorem dX12_wet_22 : decode cX12_wet 22 = .ok (.invokevirtual 193, 3) := by decide +kernel
theorem dX12_wet_25 : decode cX12_wet 25 = .ok (.ifCond .eq 24, 3) := by decide +kernel
theorem dX12_wet_28 : decode cX12_wet 28 = .ok (.iload 4, 2) := by decide +kernel
theorem dX12_wet_30 : decode cX12_wet 30 = .ok (.i2l, 1) := by decide +kernel
theorem dX12_wet_31 : decode cX12_wet 31 = .ok (.lconst 0, 1) := by decide +kernel
theorem dX12_wet_32 : decode cX12_wet 32 = .ok (.iconst 1, 1) := by decide +kernel
theorem dX12_wet_33 : decode cX12_wet 33 = .ok (.aload_n 0, 1) := by decide +kernel
theorem dX12_wet_34 : decode cX12_wet 34 = .ok (.getfield 7, 3) := by decide +kernel
theorem dX12_wet_37 : decode cX12_wet 37 = .ok (.iconst 0, 1) := by decide +kernel
theorem dX12_wet_38 : decode cX12_wet 38 = .ok (.iaload, 1) := by decide +kernel
theorem dX12_wet_39 : decode cX12_wet 39 = .ok (.ishl, 1) := by decide +kernel
theorem dX12_wet_40 : decode cX12_wet 40 = .ok (.iconst 1, 1) := by decide +kernel
theorem dX12_wet_41 : decode cX12_wet 41 = .ok (.isub, 1) := by decide +kernel
theorem dX12_wet_42 : decode cX12_wet 42 = .ok (.i2l, 1) := by decide +kernel
theorem dX12_wet_43 : decode cX12_wet 43 = .ok (.invokestatic 62, 3) := by decide +kernel
theorem dX12_wet_46 : decode cX12_wet 46 = .ok (.ifCond .ne 8, 3) := by decide +kernel
theorem dX12_wet_49 : decode cX12_wet 49 = .ok (.aload_n 0, 1) := by decide +kernel
theorem dX12_wet_50 : decode cX12_wet 50 = .ok (.invokevirtual 121, 3) := by decide +kernel
theorem dX12_wet_53 : decode cX12_wet 53 = .ok (.ireturn, 1) := by decide +kernel
theorem dX12_wet_54 : decode cX12_wet 54 = .ok (.aload_n 0, 1) := by decide +kernel
theorem dX12_wet_55 : decode cX12_wet 55 = .ok (.invokevirtual 125, 3) := by decide +kernel
theorem dX12_wet_58 : decode cX12_wet 58 = .ok (.aload_n 0, 1) := by decide +kernel
theorem dX12_wet_59 : decode cX12_wet 59 = .ok (.iconst 1, 1) := by decide +kernel
theorem dX12_wet_60 : decode cX12_wet 60 = .ok (.iload_n 1, 1) := by decide +kernel
theorem dX12_wet_61 : decode cX12_wet 61 = .ok (.ishl, 1) := by decide +kernel
theorem dX12_wet_62 : decode cX12_wet 62 = .ok (.putfield 102, 3) := by decide +kernel
theorem dX12_wet_65 : decode cX12_wet 65 = .ok (.iconst 0, 1) := by decide +kernel
theorem dX12_wet_66 : decode cX12_wet 66 = .ok (.istore 5, 2) := by decide +kernel
theorem dX12_wet_68 : decode cX12_wet 68 = .ok (.iload 5, 2) := by decide +kernel
theorem dX12_wet_70 : decode cX12_wet 70 = .ok (.sipush 10240, 3) := by decide +kernel
theorem dX12_wet_73 : decode cX12_wet 73 = .ok (.if_icmp .ge 17, 3) := by decide +kernel
theorem dX12_wet_76 : decode cX12_wet 76 = .ok (.aload_n 0, 1) := by decide +kernel
theorem dX12_wet_77 : decode cX12_wet 77 = .ok (.getfield 50, 3) := by decide +kernel
theorem dX12_wet_80 : decode cX12_wet 80 = .ok (.iload 5, 2) := by decide +kernel
theorem dX12_wet_82 : decode cX12_wet 82 = .ok (.iconst 0, 1) := by decide +kernel
theorem dX12_wet_83 : decode cX12_wet 83 = .ok (.iastore, 1) := by decide +kernel
theorem dX12_wet_84 : decode cX12_wet 84 = .ok (.iinc 5 1, 3) := by decide +kernel
theorem dX12_wet_87 : decode cX12_wet 87 = .ok (.goto (-19), 3) := by decide +kernel
theorem dX12_wet_90 : decode cX12_wet 90 = .ok (.aload_n 0, 1) := by decide +kernel
theorem dX12_wet_91 : decode cX12_wet 91 = .ok (.getfield 7, 3) := by decide +kernel
theorem dX12_wet_94 : decode cX12_wet 94 = .ok (.bipush 33, 2) := by decide +kernel
theorem dX12_wet_96 : decode cX12_wet 96 = .ok (.iload_n 1, 1) := by decide +kernel
theorem dX12_wet_97 : decode cX12_wet 97 = .ok (.iadd, 1) := by decide +kernel
theorem dX12_wet_98 : decode cX12_wet 98 = .ok (.iaload, 1) := by decide +kernel
theorem dX12_wet_99 : decode cX12_wet 99 = .ok (.istore 5, 2) := by decide +kernel
theorem dX12_wet_101 : decode cX12_wet 101 = .ok (.aload_n 0, 1) := by decide +kernel
theorem dX12_wet_102 : decode cX12_wet 102 = .ok (.getfield 50, 3) := by decide +kernel
theorem dX12_wet_105 : decode cX12_wet 105 = .ok (.sipush 1024, 3) := by decide +kernel
theorem dX12_wet_108 : decode cX12_wet 108 = .ok (.iload 5, 2) := by decide +kernel
theorem dX12_wet_110 : decode cX12_wet 110 = .ok (.imul, 1) := by decide +kernel
theorem dX12_wet_111 : decode cX12_wet 111 = .ok (.bipush 32, 2) := by decide +kernel
theorem dX12_wet_113 : decode cX12_wet 113 = .ok (.aload_n 0, 1) := by decide +kernel
theorem dX12_wet_114 : decode cX12_wet 114 = .ok (.getfield 7, 3) := by decide +kernel
theorem dX12_wet_117 : decode cX12_wet 117 = .ok (.bipush 21, 2) := by decide +kernel
theorem dX12_wet_119 : decode cX12_wet 119 = .ok (.iaload, 1) := by decide +kernel
theorem dX12_wet_120 : decode cX12_wet 120 = .ok (.imul, 1) := by decide +kernel
theorem dX12_wet_121 : decode cX12_wet 121 = .ok (.iadd, 1) := by decide +kernel
theorem dX12_wet_122 : decode cX12_wet 122 = .ok (.iload 5, 2) := by decide +kernel
theorem dX12_wet_124 : decode cX12_wet 124 = .ok (.iconst 4, 1) := by decide +kernel
theorem dX12_wet_125 : decode cX12_wet 125 = .ok (.if_icmp .le 12, 3) := by decide +kernel
theorem dX12_wet_128 : decode cX12_wet 128 = .ok (.iconst 1, 1) := by decide +kernel
theorem dX12_wet_129 : decode cX12_wet 129 = .ok (.iload 5, 2) := by decide +kernel
theorem dX12_wet_131 : decode cX12_wet 131 = .ok (.iconst 5, 1) := by decide +kernel
theorem dX12_wet_132 : decode cX12_wet 132 = .ok (.isub, 1) := by decide +kernel
theorem dX12_wet_133 : decode cX12_wet 133 = .ok (.ishl, 1) := by decide +kernel
theorem dX12_wet_134 : decode cX12_wet 134 = .ok (.goto 4, 3) := by decide +kernel
theorem dX12_wet_137 : decode cX12_wet 137 = .ok (.iconst 0, 1) := by decide +kernel
theorem dX12_wet_138 : decode cX12_wet 138 = .ok (.iadd, 1) := by decide +kernel
theorem dX12_wet_139 : decode cX12_wet 139 = .ok (.iconst 1, 1) := by decide +kernel
theorem dX12_wet_140 : decode cX12_wet 140 = .ok (.iastore, 1) := by decide +kernel
theorem dX12_wet_141 : decode cX12_wet 141 = .ok (.iconst 0, 1) := by decide +kernel
theorem dX12_wet_142 : decode cX12_wet 142 = .ok (.istore 6, 2) := by decide +kernel
theorem dX12_wet_144 : decode cX12_wet 144 = .ok (.iload 6, 2) := by decide +kernel
theorem dX12_wet_146 : decode cX12_wet 146 = .ok (.iload_n 2, 1) := by decide +kernel
theorem dX12_wet_147 : decode cX12_wet 147 = .ok (.if_icmp .ge 206, 3) := by decide +kernel
theorem dX12_wet_150 : decode cX12_wet 150 = .ok (.iconst 0, 1) := by decide +kernel
theorem dX12_wet_151 : decode cX12_wet 151 = .ok (.istore 7, 2) := by decide +kernel
theorem dX12_wet_153 : decode cX12_wet 153 = .ok (.iload 7, 2) := by decide +kernel
theorem dX12_wet_155 : decode cX12_wet 155 = .ok (.sipush 10240, 3) := by decide +kernel
theorem dX12_wet_158 : decode cX12_wet 158 = .ok (.if_icmp .ge 17, 3) := by decide +kernel
theorem dX12_wet_161 : decode cX12_wet 161 = .ok (.aload_n 0, 1) := by decide +kernel
theorem dX12_wet_162 : decode cX12_wet 162 = .ok (.getfield 53, 3) := by decide +kernel
theorem dX12_wet_165 : decode cX12_wet 165 = .ok (.iload 7, 2) := by decide +kernel
theorem dX12_wet_167 : decode cX12_wet 167 = .ok (.iconst 0, 1) := by decide +kernel
theorem dX12_wet_168 : decode cX12_wet 168 = .ok (.iastore, 1) := by decide +kernel
theorem dX12_wet_169 : decode cX12_wet 169 = .ok (.iinc 7 1, 3) := by decide +kernel
theorem dX12_wet_172 : decode cX12_wet 172 = .ok (.goto (-19), 3) := by decide +kernel
theorem dX12_wet_175 : decode cX12_wet 175 = .ok (.iconst 0, 1) := by decide +kernel
theorem dX12_wet_176 : decode cX12_wet 176 = .ok (.istore 7, 2) := by decide +kernel
theorem dX12_wet_178 : decode cX12_wet 178 = .ok (.iload 7, 2) := by decide +kernel
theorem dX12_wet_180 : decode cX12_wet 180 = .ok (.sipush 10240, 3) := by decide +kernel
theorem dX12_wet_183 : decode cX12_wet 183 = .ok (.if_icmp .ge 133, 3) := by decide +kernel
theorem dX12_wet_186 : decode cX12_wet 186 = .ok (.iconst 0, 1) := by decide +kernel
theorem dX12_wet_187 : decode cX12_wet 187 = .ok (.istore 8, 2) := by decide +kernel
theorem dX12_wet_189 : decode cX12_wet 189 = .ok (.iload 8, 2) := by decide +kernel
theorem dX12_wet_191 : decode cX12_wet 191 = .ok (.bipush 10, 2) := by decide +kernel
theorem dX12_wet_193 : decode cX12_wet 193 = .ok (.if_icmp .ge 117, 3) := by decide +kernel
theorem dX12_wet_196 : decode cX12_wet 196 = .ok (.aload_n 0, 1) := by decide +kernel
theorem dX12_wet_197 : decode cX12_wet 197 = .ok (.getfield 50, 3) := by decide +kernel
theorem dX12_wet_200 : decode cX12_wet 200 = .ok (.iload 7, 2) := by decide +kernel
theorem dX12_wet_202 : decode cX12_wet 202 = .ok (.iaload, 1) := by decide +kernel
theorem dX12_wet_203 : decode cX12_wet 203 = .ok (.ifCond .le 107, 3) := by decide +kernel
theorem dX12_wet_206 : decode cX12_wet 206 = .ok (.aload_n 0, 1) := by decide +kernel
theorem dX12_wet_207 : decode cX12_wet 207 = .ok (.getfield 35, 3) := by decide +kernel
theorem dX12_wet_210 : decode cX12_wet 210 = .ok (.iload_n 1, 1) := by decide +kernel
theorem dX12_wet_211 : decode cX12_wet 211 = .ok (.iload 7, 2) := by decide +kernel
theorem dX12_wet_213 : decode cX12_wet 213 = .ok (.sipush 1024, 3) := by decide +kernel
theorem dX12_wet_216 : decode cX12_wet 216 = .ok (.idiv, 1) := by decide +kernel
theorem dX12_wet_217 : decode cX12_wet 217 = .ok (.iastore, 1) := by decide +kernel
theorem dX12_wet_218 : decode cX12_wet 218 = .ok (.aload_n 0, 1) := by decide +kernel
theorem dX12_wet_219 : decode cX12_wet 219 = .ok (.iload 7, 2) := by decide +kernel
theorem dX12_wet_221 : decode cX12_wet 221 = .ok (.bipush 32, 2) := by decide +kernel
theorem dX12_wet_223 : decode cX12_wet 223 = .ok (.idiv, 1) := by decide +kernel
theorem dX12_wet_224 : decode cX12_wet 224 = .ok (.bipush 32, 2) := by decide +kernel
theorem dX12_wet_226 : decode cX12_wet 226 = .ok (.irem, 1) := by decide +kernel
end
section
theorem dX12_wet_227 : decode cX12_wet 227 = .ok (.putfield 108, 3) := by decide +kernel
theorem dX12_wet_230 : decode cX12_wet 230 = .ok (.aload_n 0, 1) := by decide +kernel
theorem dX12_wet_231 : decode cX12_wet 231 = .ok (.iload_n 1, 1) := by decide +kernel
theorem dX12_wet_232 : decode cX12_wet 232 = .ok (.iload 8, 2) := by decide +kernel
theorem dX12_wet_234 : decode cX12_wet 234 = .ok (.invokevirtual 196, 3) := by decide +kernel
theorem dX12_wet_237 : decode cX12_wet 237 = .ok (.ifCond .eq 67, 3) := by decide +kernel
theorem dX12_wet_240 : decode cX12_wet 240 = .ok (.aload_n 0, 1) := by decide +kernel
theorem dX12_wet_241 : decode cX12_wet 241 = .ok (.getfield 35, 3) := by decide +kernel
theorem dX12_wet_244 : decode cX12_wet 244 = .ok (.iload_n 1, 1) := by decide +kernel
theorem dX12_wet_245 : decode cX12_wet 245 = .ok (.iload 8, 2) := by decide +kernel
theorem dX12_wet_247 : decode cX12_wet 247 = .ok (.iastore, 1) := by decide +kernel
theorem dX12_wet_248 : decode cX12_wet 248 = .ok (.aload_n 0, 1) := by decide +kernel
theorem dX12_wet_249 : decode cX12_wet 249 = .ok (.invokevirtual 199, 3) := by decide +kernel
theorem dX12_wet_252 : decode cX12_wet 252 = .ok (.aload_n 0, 1) := by decide +kernel
theorem dX12_wet_253 : decode cX12_wet 253 = .ok (.getfield 53, 3) := by decide +kernel
theorem dX12_wet_256 : decode cX12_wet 256 = .ok (.sipush 1024, 3) := by decide +kernel
theorem dX12_wet_259 : decode cX12_wet 259 = .ok (.iload 8, 2) := by decide +kernel
theorem dX12_wet_261 : decode cX12_wet 261 = .ok (.imul, 1) := by decide +kernel
theorem dX12_wet_262 : decode cX12_wet 262 = .ok (.bipush 32, 2) := by decide +kernel
theorem dX12_wet_264 : decode cX12_wet 264 = .ok (.aload_n 0, 1) := by decide +kernel
theorem dX12_wet_265 : decode cX12_wet 265 = .ok (.getfield 108, 3) := by decide +kernel
theorem dX12_wet_268 : decode cX12_wet 268 = .ok (.imul, 1) := by decide +kernel
theorem dX12_wet_269 : decode cX12_wet 269 = .ok (.iadd, 1) := by decide +kernel
theorem dX12_wet_270 : decode cX12_wet 270 = .ok (.iload 7, 2) := by decide +kernel
theorem dX12_wet_272 : decode cX12_wet 272 = .ok (.bipush 32, 2) := by decide +kernel
theorem dX12_wet_274 : decode cX12_wet 274 = .ok (.irem, 1) := by decide +kernel
theorem dX12_wet_275 : decode cX12_wet 275 = .ok (.iload 8, 2) := by decide +kernel
theorem dX12_wet_277 : decode cX12_wet 277 = .ok (.iconst 4, 1) := by decide +kernel
theorem dX12_wet_278 : decode cX12_wet 278 = .ok (.if_icmp .le 12, 3) := by decide +kernel
theorem dX12_wet_281 : decode cX12_wet 281 = .ok (.iconst 1, 1) := by decide +kernel
theorem dX12_wet_282 : decode cX12_wet 282 = .ok (.iload 8, 2) := by decide +kernel
theorem dX12_wet_284 : decode cX12_wet 284 = .ok (.iconst 5, 1) := by decide +kernel
theorem dX12_wet_285 : decode cX12_wet 285 = .ok (.isub, 1) := by decide +kernel
theorem dX12_wet_286 : decode cX12_wet 286 = .ok (.ishl, 1) := by decide +kernel
theorem dX12_wet_287 : decode cX12_wet 287 = .ok (.goto 4, 3) := by decide +kernel
theorem dX12_wet_290 : decode cX12_wet 290 = .ok (.iconst 0, 1) := by decide +kernel
theorem dX12_wet_291 : decode cX12_wet 291 = .ok (.ior, 1) := by decide +kernel
theorem dX12_wet_292 : decode cX12_wet 292 = .ok (.iadd, 1) := by decide +kernel
theorem dX12_wet_293 : decode cX12_wet 293 = .ok (.dup2, 1) := by decide +kernel
theorem dX12_wet_294 : decode cX12_wet 294 = .ok (.iaload, 1) := by decide +kernel
theorem dX12_wet_295 : decode cX12_wet 295 = .ok (.aload_n 0, 1) := by decide +kernel
theorem dX12_wet_296 : decode cX12_wet 296 = .ok (.getfield 50, 3) := by decide +kernel
theorem dX12_wet_299 : decode cX12_wet 299 = .ok (.iload 7, 2) := by decide +kernel
theorem dX12_wet_301 : decode cX12_wet 301 = .ok (.iaload, 1) := by decide +kernel
theorem dX12_wet_302 : decode cX12_wet 302 = .ok (.iadd, 1) := by decide +kernel
theorem dX12_wet_303 : decode cX12_wet 303 = .ok (.iastore, 1) := by decide +kernel
theorem dX12_wet_304 : decode cX12_wet 304 = .ok (.iinc 8 1, 3) := by decide +kernel
theorem dX12_wet_307 : decode cX12_wet 307 = .ok (.goto (-118), 3) := by decide +kernel
theorem dX12_wet_310 : decode cX12_wet 310 = .ok (.iinc 7 1, 3) := by decide +kernel
theorem dX12_wet_313 : decode cX12_wet 313 = .ok (.goto (-135), 3) := by decide +kernel
theorem dX12_wet_316 : decode cX12_wet 316 = .ok (.iconst 0, 1) := by decide +kernel
theorem dX12_wet_317 : decode cX12_wet 317 = .ok (.istore 7, 2) := by decide +kernel
theorem dX12_wet_319 : decode cX12_wet 319 = .ok (.iload 7, 2) := by decide +kernel
theorem dX12_wet_321 : decode cX12_wet 321 = .ok (.sipush 10240, 3) := by decide +kernel
theorem dX12_wet_324 : decode cX12_wet 324 = .ok (.if_icmp .ge 23, 3) := by decide +kernel
theorem dX12_wet_327 : decode cX12_wet 327 = .ok (.aload_n 0, 1) := by decide +kernel
theorem dX12_wet_328 : decode cX12_wet 328 = .ok (.getfield 50, 3) := by decide +kernel
theorem dX12_wet_331 : decode cX12_wet 331 = .ok (.iload 7, 2) := by decide +kernel
theorem dX12_wet_333 : decode cX12_wet 333 = .ok (.aload_n 0, 1) := by decide +kernel
theorem dX12_wet_334 : decode cX12_wet 334 = .ok (.getfield 53, 3) := by decide +kernel
theorem dX12_wet_337 : decode cX12_wet 337 = .ok (.iload 7, 2) := by decide +kernel
theorem dX12_wet_339 : decode cX12_wet 339 = .ok (.iaload, 1) := by decide +kernel
theorem dX12_wet_340 : decode cX12_wet 340 = .ok (.iastore, 1) := by decide +kernel
theorem dX12_wet_341 : decode cX12_wet 341 = .ok (.iinc 7 1, 3) := by decide +kernel
theorem dX12_wet_344 : decode cX12_wet 344 = .ok (.goto (-25), 3) := by decide +kernel
theorem dX12_wet_347 : decode cX12_wet 347 = .ok (.iinc 6 1, 3) := by decide +kernel
theorem dX12_wet_350 : decode cX12_wet 350 = .ok (.goto (-206), 3) := by decide +kernel
theorem dX12_wet_353 : decode cX12_wet 353 = .ok (.iconst 0, 1) := by decide +kernel
theorem dX12_wet_354 : decode cX12_wet 354 = .ok (.istore 6, 2) := by decide +kernel
theorem dX12_wet_356 : decode cX12_wet 356 = .ok (.iconst 0, 1) := by decide +kernel
theorem dX12_wet_357 : decode cX12_wet 357 = .ok (.istore 7, 2) := by decide +kernel
theorem dX12_wet_359 : decode cX12_wet 359 = .ok (.iload 7, 2) := by decide +kernel
theorem dX12_wet_361 : decode cX12_wet 361 = .ok (.bipush 32, 2) := by decide +kernel
theorem dX12_wet_363 : decode cX12_wet 363 = .ok (.if_icmp .ge 33, 3) := by decide +kernel
theorem dX12_wet_366 : decode cX12_wet 366 = .ok (.iload 6, 2) := by decide +kernel
theorem dX12_wet_368 : decode cX12_wet 368 = .ok (.aload_n 0, 1) := by decide +kernel
theorem dX12_wet_369 : decode cX12_wet 369 = .ok (.getfield 50, 3) := by decide +kernel
theorem dX12_wet_372 : decode cX12_wet 372 = .ok (.sipush 1024, 3) := by decide +kernel
theorem dX12_wet_375 : decode cX12_wet 375 = .ok (.iload_n 3, 1) := by decide +kernel
theorem dX12_wet_376 : decode cX12_wet 376 = .ok (.imul, 1) := by decide +kernel
theorem dX12_wet_377 : decode cX12_wet 377 = .ok (.bipush 32, 2) := by decide +kernel
theorem dX12_wet_379 : decode cX12_wet 379 = .ok (.iload 7, 2) := by decide +kernel
theorem dX12_wet_381 : decode cX12_wet 381 = .ok (.imul, 1) := by decide +kernel
theorem dX12_wet_382 : decode cX12_wet 382 = .ok (.iadd, 1) := by decide +kernel
theorem dX12_wet_383 : decode cX12_wet 383 = .ok (.iload 4, 2) := by decide +kernel
theorem dX12_wet_385 : decode cX12_wet 385 = .ok (.iadd, 1) := by decide +kernel
theorem dX12_wet_386 : decode cX12_wet 386 = .ok (.iaload, 1) := by decide +kernel
theorem dX12_wet_387 : decode cX12_wet 387 = .ok (.iadd, 1) := by decide +kernel
theorem dX12_wet_388 : decode cX12_wet 388 = .ok (.istore 6, 2) := by decide +kernel
theorem dX12_wet_390 : decode cX12_wet 390 = .ok (.iinc 7 1, 3) := by decide +kernel
theorem dX12_wet_393 : decode cX12_wet 393 = .ok (.goto (-34), 3) := by decide +kernel
theorem dX12_wet_396 : decode cX12_wet 396 = .ok (.iload 6, 2) := by decide +kernel
theorem dX12_wet_398 : decode cX12_wet 398 = .ok (.ireturn, 1) := by decide +kernel
theorem dX12_image_0 : decode cX12_image 0 = .ok (.iload_n 1, 1) := by decide +kernel
theorem dX12_image_1 : decode cX12_image 1 = .ok (.i2l, 1) := by decide +kernel
theorem dX12_image_2 : decode cX12_image 2 = .ok (.lconst 0, 1) := by decide +kernel
theorem dX12_image_3 : decode cX12_image 3 = .ok (.lconst 1, 1) := by decide +kernel
theorem dX12_image_4 : decode cX12_image 4 = .ok (.invokestatic 62, 3) := by decide +kernel
theorem dX12_image_7 : decode cX12_image 7 = .ok (.ifCond .ne 8, 3) := by decide +kernel
theorem dX12_image_10 : decode cX12_image 10 = .ok (.aload_n 0, 1) := by decide +kernel
theorem dX12_image_11 : decode cX12_image 11 = .ok (.invokevirtual 121, 3) := by decide +kernel
theorem dX12_image_14 : decode cX12_image 14 = .ok (.ireturn, 1) := by decide +kernel
theorem dX12_image_15 : decode cX12_image 15 = .ok (.aload_n 0, 1) := by decide +kernel
theorem dX12_image_16 : decode cX12_image 16 = .ok (.iconst 0, 1) := by decide +kernel
theorem dX12_image_17 : decode cX12_image 17 = .ok (.bipush 110, 2) := by decide +kernel
theorem dX12_image_19 : decode cX12_image 19 = .ok (.iconst 1, 1) := by decide +kernel
theorem dX12_image_20 : decode cX12_image 20 = .ok (.iload_n 1, 1) := by decide +kernel
theorem dX12_image_21 : decode cX12_image 21 = .ok (.iadd, 1) := by decide +kernel
theorem dX12_image_22 : decode cX12_image 22 = .ok (.imul, 1) := by decide +kernel
theorem dX12_image_23 : decode cX12_image 23 = .ok (.invokevirtual 190, 3) := by decide +kernel
theorem dX12_image_26 : decode cX12_image 26 = .ok (.aload_n 0, 1) := by decide +kernel
theorem dX12_image_27 : decode cX12_image 27 = .ok (.getfield 13, 3) := by decide +kernel
theorem dX12_image_30 : decode cX12_image 30 = .ok (.iload_n 1, 1) := by decide +kernel
theorem dX12_image_31 : decode cX12_image 31 = .ok (.iconst 1, 1) := by decide +kernel
theorem dX12_image_32 : decode cX12_image 32 = .ok (.bastore, 1) := by decide +kernel
theorem dX12_image_33 : decode cX12_image 33 = .ok (.iconst 1, 1) := by decide +kernel
theorem dX12_image_34 : decode cX12_image 34 = .ok (.ireturn, 1) := by decide +kernel
theorem dX12_from_0 : decode cX12_from 0 = .ok (.iload_n 1, 1) := by decide +kernel
theorem dX12_from_1 : decode cX12_from 1 = .ok (.i2l, 1) := by decide +kernel
theorem dX12_from_2 : decode cX12_from 2 = .ok (.lconst 0, 1) := by decide +kernel
theorem dX12_from_3 : decode cX12_from 3 = .ok (.lconst 1, 1) := by decide +kernel
theorem dX12_from_4 : decode cX12_from 4 = .ok (.invokestatic 62, 3) := by decide +kernel
theorem dX12_from_7 : decode cX12_from 7 = .ok (.ifCond .ne 8, 3) := by decide +kernel
theorem dX12_from_10 : decode cX12_from 10 = .ok (.aload_n 0, 1) := by decide +kernel
theorem dX12_from_11 : decode cX12_from 11 = .ok (.invokevirtual 121, 3) := by decide +kernel
theorem dX12_from_14 : decode cX12_from 14 = .ok (.ireturn, 1) := by decide +kernel
theorem dX12_from_15 : decode cX12_from 15 = .ok (.aload_n 0, 1) := by decide +kernel
theorem dX12_from_16 : decode cX12_from 16 = .ok (.getfield 13, 3) := by decide +kernel
theorem dX12_from_19 : decode cX12_from 19 = .ok (.iload_n 1, 1) := by decide +kernel
theorem dX12_from_20 : decode cX12_from 20 = .ok (.baload, 1) := by decide +kernel
theorem dX12_from_21 : decode cX12_from 21 = .ok (.ifCond .ne 10, 3) := by decide +kernel
theorem dX12_from_24 : decode cX12_from 24 = .ok (.aload_n 0, 1) := by decide +kernel
theorem dX12_from_25 : decode cX12_from 25 = .ok (.bipush (-3), 2) := by decide +kernel
theorem dX12_from_27 : decode cX12_from 27 = .ok (.invokevirtual 56, 3) := by decide +kernel
theorem dX12_from_30 : decode cX12_from 30 = .ok (.ireturn, 1) := by decide +kernel
theorem dX12_from_31 : decode cX12_from 31 = .ok (.aload_n 0, 1) := by decide +kernel
theorem dX12_from_32 : decode cX12_from 32 = .ok (.bipush 110, 2) := by decide +kernel
theorem dX12_from_34 : decode cX12_from 34 = .ok (.iconst 1, 1) := by decide +kernel
theorem dX12_from_35 : decode cX12_from 35 = .ok (.iload_n 1, 1) := by decide +kernel
theorem dX12_from_36 : decode cX12_from 36 = .ok (.iadd, 1) := by decide +kernel
theorem dX12_from_37 : decode cX12_from 37 = .ok (.imul, 1) := by decide +kernel
theorem dX12_from_38 : decode cX12_from 38 = .ok (.iconst 0, 1) := by decide +kernel
theorem dX12_from_39 : decode cX12_from 39 = .ok (.invokevirtual 190, 3) := by decide +kernel
theorem dX12_from_42 : decode cX12_from 42 = .ok (.iconst 1, 1) := by decide +kernel
theorem dX12_from_43 : decode cX12_from 43 = .ok (.ireturn, 1) := by decide +kernel
theorem dX12_status_0 : decode cX12_status 0 = .ok (.iload_n 1, 1) := by decide +kernel
theorem dX12_status_1 : decode cX12_status 1 = .ok (.i2l, 1) := by decide +kernel
theorem dX12_status_2 : decode cX12_status 2 = .ok (.lconst 0, 1) := by decide +kernel
theorem dX12_status_3 : decode cX12_status 3 = .ok (.ldc2_w 247, 3) := by decide +kernel
theorem dX12_status_6 : decode cX12_status 6 = .ok (.invokestatic 62, 3) := by decide +kernel
theorem dX12_status_9 : decode cX12_status 9 = .ok (.ifCond .ne 15, 3) := by decide +kernel
theorem dX12_status_12 : decode cX12_status 12 = .ok (.aload_n 0, 1) := by decide +kernel
theorem dX12_status_13 : decode cX12_status 13 = .ok (.getfield 20, 3) := by decide +kernel
theorem dX12_status_16 : decode cX12_status 16 = .ok (.iconst 0, 1) := by decide +kernel
theorem dX12_status_17 : decode cX12_status 17 = .ok (.dup2, 1) := by decide +kernel
theorem dX12_status_18 : decode cX12_status 18 = .ok (.iaload, 1) := by decide +kernel
theorem dX12_status_19 : decode cX12_status 19 = .ok (.iconst 1, 1) := by decide +kernel
theorem dX12_status_20 : decode cX12_status 20 = .ok (.iadd, 1) := by decide +kernel
theorem dX12_status_21 : decode cX12_status 21 = .ok (.iastore, 1) := by decide +kernel
theorem dX12_status_22 : decode cX12_status 22 = .ok (.iconst (-1), 1) := by decide +kernel
theorem dX12_status_23 : decode cX12_status 23 = .ok (.ireturn, 1) := by decide +kernel
theorem dX12_status_24 : decode cX12_status 24 = .ok (.aload_n 0, 1) := by decide +kernel
theorem dX12_status_25 : decode cX12_status 25 = .ok (.getfield 20, 3) := by decide +kernel
theorem dX12_status_28 : decode cX12_status 28 = .ok (.iload_n 1, 1) := by decide +kernel
theorem dX12_status_29 : decode cX12_status 29 = .ok (.iaload, 1) := by decide +kernel
theorem dX12_status_30 : decode cX12_status 30 = .ok (.ireturn, 1) := by decide +kernel
theorem dX12_countOf_0 : decode cX12_countOf 0 = .ok (.iload_n 1, 1) := by decide +kernel
theorem dX12_countOf_1 : decode cX12_countOf 1 = .ok (.ifCond .ne 12, 3) := by decide +kernel
theorem dX12_countOf_4 : decode cX12_countOf 4 = .ok (.aload_n 0, 1) := by decide +kernel
theorem dX12_countOf_5 : decode cX12_countOf 5 = .ok (.getfield 7, 3) := by decide +kernel
theorem dX12_countOf_8 : decode cX12_countOf 8 = .ok (.iconst 0, 1) := by decide +kernel
theorem dX12_countOf_9 : decode cX12_countOf 9 = .ok (.iaload, 1) := by decide +kernel
theorem dX12_countOf_10 : decode cX12_countOf 10 = .ok (.goto 52, 3) := by decide +kernel
theorem dX12_countOf_13 : decode cX12_countOf 13 = .ok (.iload_n 1, 1) := by decide +kernel
theorem dX12_countOf_14 : decode cX12_countOf 14 = .ok (.iconst 1, 1) := by decide +kernel
theorem dX12_countOf_15 : decode cX12_countOf 15 = .ok (.if_icmp .ne 13, 3) := by decide +kernel
theorem dX12_countOf_18 : decode cX12_countOf 18 = .ok (.aload_n 0, 1) := by decide +kernel
theorem dX12_countOf_19 : decode cX12_countOf 19 = .ok (.getfield 7, 3) := by decide +kernel
theorem dX12_countOf_22 : decode cX12_countOf 22 = .ok (.bipush 22, 2) := by decide +kernel
theorem dX12_countOf_24 : decode cX12_countOf 24 = .ok (.iaload, 1) := by decide +kernel
theorem dX12_countOf_25 : decode cX12_countOf 25 = .ok (.goto 37, 3) := by decide +kernel
theorem dX12_countOf_28 : decode cX12_countOf 28 = .ok (.iload_n 1, 1) := by decide +kernel
theorem dX12_countOf_29 : decode cX12_countOf 29 = .ok (.iconst 2, 1) := by decide +kernel
theorem dX12_countOf_30 : decode cX12_countOf 30 = .ok (.if_icmp .ne 13, 3) := by decide +kernel
theorem dX12_countOf_33 : decode cX12_countOf 33 = .ok (.aload_n 0, 1) := by decide +kernel
theorem dX12_countOf_34 : decode cX12_countOf 34 = .ok (.getfield 7, 3) := by decide +kernel
theorem dX12_countOf_37 : decode cX12_countOf 37 = .ok (.bipush 29, 2) := by decide +kernel
theorem dX12_countOf_39 : decode cX12_countOf 39 = .ok (.iaload, 1) := by decide +kernel
theorem dX12_countOf_40 : decode cX12_countOf 40 = .ok (.goto 22, 3) := by decide +kernel
theorem dX12_countOf_43 : decode cX12_countOf 43 = .ok (.iload_n 1, 1) := by decide +kernel
theorem dX12_countOf_44 : decode cX12_countOf 44 = .ok (.iconst 3, 1) := by decide +kernel
theorem dX12_countOf_45 : decode cX12_countOf 45 = .ok (.if_icmp .ne 13, 3) := by decide +kernel
theorem dX12_countOf_48 : decode cX12_countOf 48 = .ok (.aload_n 0, 1) := by decide +kernel
theorem dX12_countOf_49 : decode cX12_countOf 49 = .ok (.getfield 7, 3) := by decide +kernel
theorem dX12_countOf_52 : decode cX12_countOf 52 = .ok (.bipush 36, 2) := by decide +kernel
theorem dX12_countOf_54 : decode cX12_countOf 54 = .ok (.iaload, 1) := by decide +kernel
theorem dX12_countOf_55 : decode cX12_countOf 55 = .ok (.goto 7, 3) := by decide +kernel
theorem dX12_countOf_58 : decode cX12_countOf 58 = .ok (.aload_n 0, 1) := by decide +kernel
theorem dX12_countOf_59 : decode cX12_countOf 59 = .ok (.getfield 137, 3) := by decide +kernel
theorem dX12_countOf_62 : decode cX12_countOf 62 = .ok (.ireturn, 1) := by decide +kernel
theorem dX12_count_0 : decode cX12_count 0 = .ok (.iload_n 1, 1) := by decide +kernel
theorem dX12_count_1 : decode cX12_count 1 = .ok (.i2l, 1) := by decide +kernel
theorem dX12_count_2 : decode cX12_count 2 = .ok (.lconst 0, 1) := by decide +kernel
theorem dX12_count_3 : decode cX12_count 3 = .ok (.ldc2_w 60, 3) := by decide +kernel
theorem dX12_count_6 : decode cX12_count 6 = .ok (.invokestatic 62, 3) := by decide +kernel
theorem dX12_count_9 : decode cX12_count 9 = .ok (.ifCond .eq 11, 3) := by decide +kernel
theorem dX12_count_12 : decode cX12_count 12 = .ok (.aload_n 0, 1) := by decide +kernel
theorem dX12_count_13 : decode cX12_count 13 = .ok (.iload_n 1, 1) := by decide +kernel
theorem dX12_count_14 : decode cX12_count 14 = .ok (.invokevirtual 249, 3) := by decide +kernel
theorem dX12_count_17 : decode cX12_count 17 = .ok (.goto 7, 3) := by decide +kernel
theorem dX12_count_20 : decode cX12_count 20 = .ok (.aload_n 0, 1) := by decide +kernel
theorem dX12_count_21 : decode cX12_count 21 = .ok (.invokevirtual 121, 3) := by decide +kernel
theorem dX12_count_24 : decode cX12_count 24 = .ok (.ireturn, 1) := by decide +kernel
theorem dX12_mix_0 : decode cX12_mix 0 = .ok (.aload_n 0, 1) := by decide +kernel
theorem dX12_mix_1 : decode cX12_mix 1 = .ok (.ldc2_w 252, 3) := by decide +kernel
theorem dX12_mix_4 : decode cX12_mix 4 = .ok (.aload_n 0, 1) := by decide +kernel
theorem dX12_mix_5 : decode cX12_mix 5 = .ok (.getfield 254, 3) := by decide +kernel
theorem dX12_mix_8 : decode cX12_mix 8 = .ok (.lmul, 1) := by decide +kernel
theorem dX12_mix_9 : decode cX12_mix 9 = .ok (.lload_n 1, 1) := by decide +kernel
theorem dX12_mix_10 : decode cX12_mix 10 = .ok (.ladd, 1) := by decide +kernel
theorem dX12_mix_11 : decode cX12_mix 11 = .ok (.putfield 254, 3) := by decide +kernel
theorem dX12_mix_14 : decode cX12_mix 14 = .ok (.return_, 1) := by decide +kernel
theorem dX12_digest_0 : decode cX12_digest 0 = .ok (.aload_n 0, 1) := by decide +kernel
theorem dX12_digest_1 : decode cX12_digest 1 = .ok (.ldc2_w 258, 3) := by decide +kernel
theorem dX12_digest_4 : decode cX12_digest 4 = .ok (.putfield 254, 3) := by decide +kernel
theorem dX12_digest_7 : decode cX12_digest 7 = .ok (.iconst 0, 1) := by decide +kernel
theorem dX12_digest_8 : decode cX12_digest 8 = .ok (.istore_n 1, 1) := by decide +kernel
theorem dX12_digest_9 : decode cX12_digest 9 = .ok (.iload_n 1, 1) := by decide +kernel
theorem dX12_digest_10 : decode cX12_digest 10 = .ok (.iconst 5, 1) := by decide +kernel
theorem dX12_digest_11 : decode cX12_digest 11 = .ok (.if_icmp .ge 19, 3) := by decide +kernel
theorem dX12_digest_14 : decode cX12_digest 14 = .ok (.aload_n 0, 1) := by decide +kernel
theorem dX12_digest_15 : decode cX12_digest 15 = .ok (.aload_n 0, 1) := by decide +kernel
theorem dX12_digest_16 : decode cX12_digest 16 = .ok (.iload_n 1, 1) := by decide +kernel
theorem dX12_digest_17 : decode cX12_digest 17 = .ok (.invokevirtual 249, 3) := by decide +kernel
theorem dX12_digest_20 : decode cX12_digest 20 = .ok (.i2l, 1) := by decide +kernel
theorem dX12_digest_21 : decode cX12_digest 21 = .ok (.invokevirtual 260, 3) := by decide +kernel
theorem dX12_digest_24 : decode cX12_digest 24 = .ok (.iinc 1 1, 3) := by decide +kernel
theorem dX12_digest_27 : decode cX12_digest 27 = .ok (.goto (-18), 3) := by decide +kernel
theorem dX12_digest_30 : decode cX12_digest 30 = .ok (.iconst 0, 1) := by decide +kernel
theorem dX12_digest_31 : decode cX12_digest 31 = .ok (.istore_n 1, 1) := by decide +kernel
theorem dX12_digest_32 : decode cX12_digest 32 = .ok (.iload_n 1, 1) := by decide +kernel
theorem dX12_digest_33 : decode cX12_digest 33 = .ok (.aload_n 0, 1) := by decide +kernel
theorem dX12_digest_34 : decode cX12_digest 34 = .ok (.getfield 7, 3) := by decide +kernel
theorem dX12_digest_37 : decode cX12_digest 37 = .ok (.iconst 0, 1) := by decide +kernel
theorem dX12_digest_38 : decode cX12_digest 38 = .ok (.iaload, 1) := by decide +kernel
theorem dX12_digest_39 : decode cX12_digest 39 = .ok (.if_icmp .ge 64, 3) := by decide +kernel
theorem dX12_digest_42 : decode cX12_digest 42 = .ok (.aload_n 0, 1) := by decide +kernel
theorem dX12_digest_43 : decode cX12_digest 43 = .ok (.aload_n 0, 1) := by decide +kernel
theorem dX12_digest_44 : decode cX12_digest 44 = .ok (.getfield 7, 3) := by decide +kernel
theorem dX12_digest_47 : decode cX12_digest 47 = .ok (.iconst 1, 1) := by decide +kernel
theorem dX12_digest_48 : decode cX12_digest 48 = .ok (.iload_n 1, 1) := by decide +kernel
theorem dX12_digest_49 : decode cX12_digest 49 = .ok (.iadd, 1) := by decide +kernel
theorem dX12_digest_50 : decode cX12_digest 50 = .ok (.iaload, 1) := by decide +kernel
theorem dX12_digest_51 : decode cX12_digest 51 = .ok (.i2l, 1) := by decide +kernel
theorem dX12_digest_52 : decode cX12_digest 52 = .ok (.invokevirtual 260, 3) := by decide +kernel
theorem dX12_digest_55 : decode cX12_digest 55 = .ok (.aload_n 0, 1) := by decide +kernel
theorem dX12_digest_56 : decode cX12_digest 56 = .ok (.aload_n 0, 1) := by decide +kernel
theorem dX12_digest_57 : decode cX12_digest 57 = .ok (.getfield 7, 3) := by decide +kernel
theorem dX12_digest_60 : decode cX12_digest 60 = .ok (.bipush 6, 2) := by decide +kernel
theorem dX12_digest_62 : decode cX12_digest 62 = .ok (.iload_n 1, 1) := by decide +kernel
theorem dX12_digest_63 : decode cX12_digest 63 = .ok (.iadd, 1) := by decide +kernel
theorem dX12_digest_64 : decode cX12_digest 64 = .ok (.iaload, 1) := by decide +kernel
theorem dX12_digest_65 : decode cX12_digest 65 = .ok (.i2l, 1) := by decide +kernel
theorem dX12_digest_66 : decode cX12_digest 66 = .ok (.invokevirtual 260, 3) := by decide +kernel
theorem dX12_digest_69 : decode cX12_digest 69 = .ok (.aload_n 0, 1) := by decide +kernel
theorem dX12_digest_70 : decode cX12_digest 70 = .ok (.aload_n 0, 1) := by decide +kernel
theorem dX12_digest_71 : decode cX12_digest 71 = .ok (.getfield 7, 3) := by decide +kernel
theorem dX12_digest_74 : decode cX12_digest 74 = .ok (.bipush 11, 2) := by decide +kernel
theorem dX12_digest_76 : decode cX12_digest 76 = .ok (.iload_n 1, 1) := by decide +kernel
theorem dX12_digest_77 : decode cX12_digest 77 = .ok (.iadd, 1) := by decide +kernel
theorem dX12_digest_78 : decode cX12_digest 78 = .ok (.iaload, 1) := by decide +kernel
theorem dX12_digest_79 : decode cX12_digest 79 = .ok (.i2l, 1) := by decide +kernel
theorem dX12_digest_80 : decode cX12_digest 80 = .ok (.invokevirtual 260, 3) := by decide +kernel
theorem dX12_digest_83 : decode cX12_digest 83 = .ok (.aload_n 0, 1) := by decide +kernel
theorem dX12_digest_84 : decode cX12_digest 84 = .ok (.aload_n 0, 1) := by decide +kernel
theorem dX12_digest_85 : decode cX12_digest 85 = .ok (.getfield 7, 3) := by decide +kernel
theorem dX12_digest_88 : decode cX12_digest 88 = .ok (.bipush 16, 2) := by decide +kernel
theorem dX12_digest_90 : decode cX12_digest 90 = .ok (.iload_n 1, 1) := by decide +kernel
theorem dX12_digest_91 : decode cX12_digest 91 = .ok (.iadd, 1) := by decide +kernel
theorem dX12_digest_92 : decode cX12_digest 92 = .ok (.iaload, 1) := by decide +kernel
theorem dX12_digest_93 : decode cX12_digest 93 = .ok (.i2l, 1) := by decide +kernel
theorem dX12_digest_94 : decode cX12_digest 94 = .ok (.invokevirtual 260, 3) := by decide +kernel
theorem dX12_digest_97 : decode cX12_digest 97 = .ok (.iinc 1 1, 3) := by decide +kernel
theorem dX12_digest_100 : decode cX12_digest 100 = .ok (.goto (-68), 3) := by decide +kernel
theorem dX12_digest_103 : decode cX12_digest 103 = .ok (.aload_n 0, 1) := by decide +kernel
theorem dX12_digest_104 : decode cX12_digest 104 = .ok (.aload_n 0, 1) := by decide +kernel
theorem dX12_digest_105 : decode cX12_digest 105 = .ok (.getfield 7, 3) := by decide +kernel
theorem dX12_digest_108 : decode cX12_digest 108 = .ok (.bipush 21, 2) := by decide +kernel
theorem dX12_digest_110 : decode cX12_digest 110 = .ok (.iaload, 1) := by decide +kernel
theorem dX12_digest_111 : decode cX12_digest 111 = .ok (.i2l, 1) := by decide +kernel
theorem dX12_digest_112 : decode cX12_digest 112 = .ok (.invokevirtual 260, 3) := by decide +kernel
theorem dX12_digest_115 : decode cX12_digest 115 = .ok (.iconst 0, 1) := by decide +kernel
theorem dX12_digest_116 : decode cX12_digest 116 = .ok (.istore_n 1, 1) := by decide +kernel
theorem dX12_digest_117 : decode cX12_digest 117 = .ok (.iload_n 1, 1) := by decide +kernel
theorem dX12_digest_118 : decode cX12_digest 118 = .ok (.aload_n 0, 1) := by decide +kernel
theorem dX12_digest_119 : decode cX12_digest 119 = .ok (.getfield 7, 3) := by decide +kernel
theorem dX12_digest_122 : decode cX12_digest 122 = .ok (.bipush 22, 2) := by decide +kernel
theorem dX12_digest_124 : decode cX12_digest 124 = .ok (.iaload, 1) := by decide +kernel
theorem dX12_digest_125 : decode cX12_digest 125 = .ok (.if_icmp .ge 51, 3) := by decide +kernel
theorem dX12_digest_128 : decode cX12_digest 128 = .ok (.aload_n 0, 1) := by decide +kernel
theorem dX12_digest_129 : decode cX12_digest 129 = .ok (.aload_n 0, 1) := by decide +kernel
theorem dX12_digest_130 : decode cX12_digest 130 = .ok (.getfield 7, 3) := by decide +kernel
theorem dX12_digest_133 : decode cX12_digest 133 = .ok (.bipush 23, 2) := by decide +kernel
theorem dX12_digest_135 : decode cX12_digest 135 = .ok (.iload_n 1, 1) := by decide +kernel
theorem dX12_digest_136 : decode cX12_digest 136 = .ok (.iadd, 1) := by decide +kernel
theorem dX12_digest_137 : decode cX12_digest 137 = .ok (.iaload, 1) := by decide +kernel
theorem dX12_digest_138 : decode cX12_digest 138 = .ok (.i2l, 1) := by decide +kernel
theorem dX12_digest_139 : decode cX12_digest 139 = .ok (.invokevirtual 260, 3) := by decide +kernel
theorem dX12_digest_142 : decode cX12_digest 142 = .ok (.aload_n 0, 1) := by decide +kernel
theorem dX12_digest_143 : decode cX12_digest 143 = .ok (.aload_n 0, 1) := by decide +kernel
theorem dX12_digest_144 : decode cX12_digest 144 = .ok (.getfield 7, 3) := by decide +kernel
theorem dX12_digest_147 : decode cX12_digest 147 = .ok (.bipush 25, 2) := by decide +kernel
theorem dX12_digest_149 : decode cX12_digest 149 = .ok (.iload_n 1, 1) := by decide +kernel
theorem dX12_digest_150 : decode cX12_digest 150 = .ok (.iadd, 1) := by decide +kernel
theorem dX12_digest_151 : decode cX12_digest 151 = .ok (.iaload, 1) := by decide +kernel
theorem dX12_digest_152 : decode cX12_digest 152 = .ok (.i2l, 1) := by decide +kernel
theorem dX12_digest_153 : decode cX12_digest 153 = .ok (.invokevirtual 260, 3) := by decide +kernel
theorem dX12_digest_156 : decode cX12_digest 156 = .ok (.aload_n 0, 1) := by decide +kernel
theorem dX12_digest_157 : decode cX12_digest 157 = .ok (.aload_n 0, 1) := by decide +kernel
theorem dX12_digest_158 : decode cX12_digest 158 = .ok (.getfield 7, 3) := by decide +kernel
theorem dX12_digest_161 : decode cX12_digest 161 = .ok (.bipush 27, 2) := by decide +kernel
theorem dX12_digest_163 : decode cX12_digest 163 = .ok (.iload_n 1, 1) := by decide +kernel
theorem dX12_digest_164 : decode cX12_digest 164 = .ok (.iadd, 1) := by decide +kernel
theorem dX12_digest_165 : decode cX12_digest 165 = .ok (.iaload, 1) := by decide +kernel
theorem dX12_digest_166 : decode cX12_digest 166 = .ok (.i2l, 1) := by decide +kernel
theorem dX12_digest_167 : decode cX12_digest 167 = .ok (.invokevirtual 260, 3) := by decide +kernel
theorem dX12_digest_170 : decode cX12_digest 170 = .ok (.iinc 1 1, 3) := by decide +kernel
theorem dX12_digest_173 : decode cX12_digest 173 = .ok (.goto (-56), 3) := by decide +kernel
theorem dX12_digest_176 : decode cX12_digest 176 = .ok (.iconst 0, 1) := by decide +kernel
theorem dX12_digest_177 : decode cX12_digest 177 = .ok (.istore_n 1, 1) := by decide +kernel
theorem dX12_digest_178 : decode cX12_digest 178 = .ok (.iload_n 1, 1) := by decide +kernel
theorem dX12_digest_179 : decode cX12_digest 179 = .ok (.aload_n 0, 1) := by decide +kernel
theorem dX12_digest_180 : decode cX12_digest 180 = .ok (.getfield 7, 3) := by decide +kernel
theorem dX12_digest_183 : decode cX12_digest 183 = .ok (.bipush 29, 2) := by decide +kernel
theorem dX12_digest_185 : decode cX12_digest 185 = .ok (.iaload, 1) := by decide +kernel
theorem dX12_digest_186 : decode cX12_digest 186 = .ok (.if_icmp .ge 37, 3) := by decide +kernel
theorem dX12_digest_189 : decode cX12_digest 189 = .ok (.aload_n 0, 1) := by decide +kernel
theorem dX12_digest_190 : decode cX12_digest 190 = .ok (.aload_n 0, 1) := by decide +kernel
theorem dX12_digest_191 : decode cX12_digest 191 = .ok (.getfield 7, 3) := by decide +kernel
theorem dX12_digest_194 : decode cX12_digest 194 = .ok (.bipush 30, 2) := by decide +kernel
theorem dX12_digest_196 : decode cX12_digest 196 = .ok (.iload_n 1, 1) := by decide +kernel
theorem dX12_digest_197 : decode cX12_digest 197 = .ok (.iadd, 1) := by decide +kernel
theorem dX12_digest_198 : decode cX12_digest 198 = .ok (.iaload, 1) := by decide +kernel
theorem dX12_digest_199 : decode cX12_digest 199 = .ok (.i2l, 1) := by decide +kernel
theorem dX12_digest_200 : decode cX12_digest 200 = .ok (.invokevirtual 260, 3) := by decide +kernel
theorem dX12_digest_203 : decode cX12_digest 203 = .ok (.aload_n 0, 1) := by decide +kernel
theorem dX12_digest_204 : decode cX12_digest 204 = .ok (.aload_n 0, 1) := by decide +kernel
theorem dX12_digest_205 : decode cX12_digest 205 = .ok (.getfield 7, 3) := by decide +kernel
theorem dX12_digest_208 : decode cX12_digest 208 = .ok (.bipush 33, 2) := by decide +kernel
theorem dX12_digest_210 : decode cX12_digest 210 = .ok (.iload_n 1, 1) := by decide +kernel
theorem dX12_digest_211 : decode cX12_digest 211 = .ok (.iadd, 1) := by decide +kernel
theorem dX12_digest_212 : decode cX12_digest 212 = .ok (.iaload, 1) := by decide +kernel
theorem dX12_digest_213 : decode cX12_digest 213 = .ok (.i2l, 1) := by decide +kernel
theorem dX12_digest_214 : decode cX12_digest 214 = .ok (.invokevirtual 260, 3) := by decide +kernel
theorem dX12_digest_217 : decode cX12_digest 217 = .ok (.iinc 1 1, 3) := by decide +kernel
theorem dX12_digest_220 : decode cX12_digest 220 = .ok (.goto (-42), 3) := by decide +kernel
theorem dX12_digest_223 : decode cX12_digest 223 = .ok (.aload_n 0, 1) := by decide +kernel
theorem dX12_digest_224 : decode cX12_digest 224 = .ok (.getfield 254, 3) := by decide +kernel
theorem dX12_digest_227 : decode cX12_digest 227 = .ok (.lreturn, 1) := by decide +kernel
theorem dJ6_bitCount_0f7a4_0 : decode cJ6_bitCount_0f7a4 0 = .ok (.iload_n 0, 1) := by decide +kernel
theorem dJ6_bitCount_0f7a4_1 : decode cJ6_bitCount_0f7a4 1 = .ok (.iload_n 0, 1) := by decide +kernel
theorem dJ6_bitCount_0f7a4_2 : decode cJ6_bitCount_0f7a4 2 = .ok (.iconst 1, 1) := by decide +kernel
theorem dJ6_bitCount_0f7a4_3 : decode cJ6_bitCount_0f7a4 3 = .ok (.iushr, 1) := by decide +kernel
theorem dJ6_bitCount_0f7a4_4 : decode cJ6_bitCount_0f7a4 4 = .ok (.ldc_w 265, 3) := by decide +kernel
theorem dJ6_bitCount_0f7a4_7 : decode cJ6_bitCount_0f7a4 7 = .ok (.iand, 1) := by decide +kernel
theorem dJ6_bitCount_0f7a4_8 : decode cJ6_bitCount_0f7a4 8 = .ok (.isub, 1) := by decide +kernel
theorem dJ6_bitCount_0f7a4_9 : decode cJ6_bitCount_0f7a4 9 = .ok (.istore_n 0, 1) := by decide +kernel
theorem dJ6_bitCount_0f7a4_10 : decode cJ6_bitCount_0f7a4 10 = .ok (.iload_n 0, 1) := by decide +kernel
theorem dJ6_bitCount_0f7a4_11 : decode cJ6_bitCount_0f7a4 11 = .ok (.ldc_w 266, 3) := by decide +kernel
theorem dJ6_bitCount_0f7a4_14 : decode cJ6_bitCount_0f7a4 14 = .ok (.iand, 1) := by decide +kernel
theorem dJ6_bitCount_0f7a4_15 : decode cJ6_bitCount_0f7a4 15 = .ok (.iload_n 0, 1) := by decide +kernel
theorem dJ6_bitCount_0f7a4_16 : decode cJ6_bitCount_0f7a4 16 = .ok (.iconst 2, 1) := by decide +kernel
theorem dJ6_bitCount_0f7a4_17 : decode cJ6_bitCount_0f7a4 17 = .ok (.iushr, 1) := by decide +kernel
theorem dJ6_bitCount_0f7a4_18 : decode cJ6_bitCount_0f7a4 18 = .ok (.ldc_w 266, 3) := by decide +kernel
theorem dJ6_bitCount_0f7a4_21 : decode cJ6_bitCount_0f7a4 21 = .ok (.iand, 1) := by decide +kernel
theorem dJ6_bitCount_0f7a4_22 : decode cJ6_bitCount_0f7a4 22 = .ok (.iadd, 1) := by decide +kernel
theorem dJ6_bitCount_0f7a4_23 : decode cJ6_bitCount_0f7a4 23 = .ok (.istore_n 0, 1) := by decide +kernel
theorem dJ6_bitCount_0f7a4_24 : decode cJ6_bitCount_0f7a4 24 = .ok (.iload_n 0, 1) := by decide +kernel
theorem dJ6_bitCount_0f7a4_25 : decode cJ6_bitCount_0f7a4 25 = .ok (.iload_n 0, 1) := by decide +kernel
theorem dJ6_bitCount_0f7a4_26 : decode cJ6_bitCount_0f7a4 26 = .ok (.iconst 4, 1) := by decide +kernel
theorem dJ6_bitCount_0f7a4_27 : decode cJ6_bitCount_0f7a4 27 = .ok (.iushr, 1) := by decide +kernel
theorem dJ6_bitCount_0f7a4_28 : decode cJ6_bitCount_0f7a4 28 = .ok (.iadd, 1) := by decide +kernel
theorem dJ6_bitCount_0f7a4_29 : decode cJ6_bitCount_0f7a4 29 = .ok (.ldc_w 267, 3) := by decide +kernel
theorem dJ6_bitCount_0f7a4_32 : decode cJ6_bitCount_0f7a4 32 = .ok (.iand, 1) := by decide +kernel
theorem dJ6_bitCount_0f7a4_33 : decode cJ6_bitCount_0f7a4 33 = .ok (.istore_n 0, 1) := by decide +kernel
theorem dJ6_bitCount_0f7a4_34 : decode cJ6_bitCount_0f7a4 34 = .ok (.iload_n 0, 1) := by decide +kernel
theorem dJ6_bitCount_0f7a4_35 : decode cJ6_bitCount_0f7a4 35 = .ok (.iload_n 0, 1) := by decide +kernel
theorem dJ6_bitCount_0f7a4_36 : decode cJ6_bitCount_0f7a4 36 = .ok (.bipush 8, 2) := by decide +kernel
theorem dJ6_bitCount_0f7a4_38 : decode cJ6_bitCount_0f7a4 38 = .ok (.iushr, 1) := by decide +kernel
theorem dJ6_bitCount_0f7a4_39 : decode cJ6_bitCount_0f7a4 39 = .ok (.iadd, 1) := by decide +kernel
theorem dJ6_bitCount_0f7a4_40 : decode cJ6_bitCount_0f7a4 40 = .ok (.istore_n 0, 1) := by decide +kernel
theorem dJ6_bitCount_0f7a4_41 : decode cJ6_bitCount_0f7a4 41 = .ok (.iload_n 0, 1) := by decide +kernel
theorem dJ6_bitCount_0f7a4_42 : decode cJ6_bitCount_0f7a4 42 = .ok (.iload_n 0, 1) := by decide +kernel
theorem dJ6_bitCount_0f7a4_43 : decode cJ6_bitCount_0f7a4 43 = .ok (.bipush 16, 2) := by decide +kernel
theorem dJ6_bitCount_0f7a4_45 : decode cJ6_bitCount_0f7a4 45 = .ok (.iushr, 1) := by decide +kernel
theorem dJ6_bitCount_0f7a4_46 : decode cJ6_bitCount_0f7a4 46 = .ok (.iadd, 1) := by decide +kernel
theorem dJ6_bitCount_0f7a4_47 : decode cJ6_bitCount_0f7a4 47 = .ok (.istore_n 0, 1) := by decide +kernel
theorem dJ6_bitCount_0f7a4_48 : decode cJ6_bitCount_0f7a4 48 = .ok (.iload_n 0, 1) := by decide +kernel
theorem dJ6_bitCount_0f7a4_49 : decode cJ6_bitCount_0f7a4 49 = .ok (.bipush 63, 2) := by decide +kernel
theorem dJ6_bitCount_0f7a4_51 : decode cJ6_bitCount_0f7a4 51 = .ok (.iand, 1) := by decide +kernel
theorem dJ6_bitCount_0f7a4_52 : decode cJ6_bitCount_0f7a4 52 = .ok (.ireturn, 1) := by decide +kernel
theorem dJ9_max_7cf53_0 : decode cJ9_max_7cf53 0 = .ok (.iload_n 0, 1) := by decide +kernel
theorem dJ9_max_7cf53_1 : decode cJ9_max_7cf53 1 = .ok (.iload_n 1, 1) := by decide +kernel
theorem dJ9_max_7cf53_2 : decode cJ9_max_7cf53 2 = .ok (.if_icmp .lt 7, 3) := by decide +kernel
theorem dJ9_max_7cf53_5 : decode cJ9_max_7cf53 5 = .ok (.iload_n 0, 1) := by decide +kernel
theorem dJ9_max_7cf53_6 : decode cJ9_max_7cf53 6 = .ok (.goto 4, 3) := by decide +kernel
theorem dJ9_max_7cf53_9 : decode cJ9_max_7cf53 9 = .ok (.iload_n 1, 1) := by decide +kernel
theorem dJ9_max_7cf53_10 : decode cJ9_max_7cf53 10 = .ok (.ireturn, 1) := by decide +kernel
theorem dJ9_min_7cf53_0 : decode cJ9_min_7cf53 0 = .ok (.iload_n 0, 1) := by decide +kernel
theorem dJ9_min_7cf53_1 : decode cJ9_min_7cf53 1 = .ok (.iload_n 1, 1) := by decide +kernel
theorem dJ9_min_7cf53_2 : decode cJ9_min_7cf53 2 = .ok (.if_icmp .gt 7, 3) := by decide +kernel
theorem dJ9_min_7cf53_5 : decode cJ9_min_7cf53 5 = .ok (.iload_n 0, 1) := by decide +kernel
theorem dJ9_min_7cf53_6 : decode cJ9_min_7cf53 6 = .ok (.goto 4, 3) := by decide +kernel
theorem dJ9_min_7cf53_9 : decode cJ9_min_7cf53 9 = .ok (.iload_n 1, 1) := by decide +kernel
theorem dJ9_min_7cf53_10 : decode cJ9_min_7cf53 10 = .ok (.ireturn, 1) := by decide +kernel
theorem dJ0_length_8abf5_0 : decode cJ0_length_8abf5 0 = .ok (.aload_n 0, 1) := by decide +kernel
theorem dJ0_length_8abf5_1 : decode cJ0_length_8abf5 1 = .ok (.getfield 9, 3) := by decide +kernel
theorem dJ0_length_8abf5_4 : decode cJ0_length_8abf5 4 = .ok (.arraylength, 1) := by decide +kernel
theorem dJ0_length_8abf5_5 : decode cJ0_length_8abf5 5 = .ok (.aload_n 0, 1) := by decide +kernel
theorem dJ0_length_8abf5_6 : decode cJ0_length_8abf5 6 = .ok (.invokevirtual 335, 3) := by decide +kernel
theorem dJ0_length_8abf5_9 : decode cJ0_length_8abf5 9 = .ok (.ishr, 1) := by decide +kernel
theorem dJ0_length_8abf5_10 : decode cJ0_length_8abf5 10 = .ok (.ireturn, 1) := by decide +kernel
theorem dJ0_charAt_5068e_0 : decode cJ0_charAt_5068e 0 = .ok (.aload_n 0, 1) := by decide +kernel
theorem dJ0_charAt_5068e_1 : decode cJ0_charAt_5068e 1 = .ok (.invokevirtual 492, 3) := by decide +kernel
theorem dJ0_charAt_5068e_4 : decode cJ0_charAt_5068e 4 = .ok (.ifCond .eq 12, 3) := by decide +kernel
theorem dJ0_charAt_5068e_7 : decode cJ0_charAt_5068e 7 = .ok (.aload_n 0, 1) := by decide +kernel
theorem dJ0_charAt_5068e_8 : decode cJ0_charAt_5068e 8 = .ok (.getfield 9, 3) := by decide +kernel
theorem dJ0_charAt_5068e_11 : decode cJ0_charAt_5068e 11 = .ok (.iload_n 1, 1) := by decide +kernel
theorem dJ0_charAt_5068e_12 : decode cJ0_charAt_5068e 12 = .ok (.invokestatic 495, 3) := by decide +kernel
theorem dJ0_charAt_5068e_15 : decode cJ0_charAt_5068e 15 = .ok (.ireturn, 1) := by decide +kernel
theorem dJ0_charAt_5068e_16 : decode cJ0_charAt_5068e 16 = .ok (.aload_n 0, 1) := by decide +kernel
theorem dJ0_charAt_5068e_17 : decode cJ0_charAt_5068e 17 = .ok (.getfield 9, 3) := by decide +kernel
theorem dJ0_charAt_5068e_20 : decode cJ0_charAt_5068e 20 = .ok (.iload_n 1, 1) := by decide +kernel
theorem dJ0_charAt_5068e_21 : decode cJ0_charAt_5068e 21 = .ok (.invokestatic 498, 3) := by decide +kernel
theorem dJ0_charAt_5068e_24 : decode cJ0_charAt_5068e 24 = .ok (.ireturn, 1) := by decide +kernel
theorem dJ0_coder_7d493_0 : decode cJ0_coder_7d493 0 = .ok (.getstatic 38, 3) := by decide +kernel
theorem dJ0_coder_7d493_3 : decode cJ0_coder_7d493 3 = .ok (.ifCond .eq 10, 3) := by decide +kernel
theorem dJ0_coder_7d493_6 : decode cJ0_coder_7d493 6 = .ok (.aload_n 0, 1) := by decide +kernel
theorem dJ0_coder_7d493_7 : decode cJ0_coder_7d493 7 = .ok (.getfield 15, 3) := by decide +kernel
theorem dJ0_coder_7d493_10 : decode cJ0_coder_7d493 10 = .ok (.goto 4, 3) := by decide +kernel
theorem dJ0_coder_7d493_13 : decode cJ0_coder_7d493 13 = .ok (.iconst 1, 1) := by decide +kernel
theorem dJ0_coder_7d493_14 : decode cJ0_coder_7d493 14 = .ok (.ireturn, 1) := by decide +kernel
theorem dJ0_isLatin1_aae02_0 : decode cJ0_isLatin1_aae02 0 = .ok (.getstatic 38, 3) := by decide +kernel
theorem dJ0_isLatin1_aae02_3 : decode cJ0_isLatin1_aae02 3 = .ok (.ifCond .eq 14, 3) := by decide +kernel
theorem dJ0_isLatin1_aae02_6 : decode cJ0_isLatin1_aae02 6 = .ok (.aload_n 0, 1) := by decide +kernel
theorem dJ0_isLatin1_aae02_7 : decode cJ0_isLatin1_aae02 7 = .ok (.getfield 15, 3) := by decide +kernel
theorem dJ0_isLatin1_aae02_10 : decode cJ0_isLatin1_aae02 10 = .ok (.ifCond .ne 7, 3) := by decide +kernel
theorem dJ0_isLatin1_aae02_13 : decode cJ0_isLatin1_aae02 13 = .ok (.iconst 1, 1) := by decide +kernel
theorem dJ0_isLatin1_aae02_14 : decode cJ0_isLatin1_aae02 14 = .ok (.goto 4, 3) := by decide +kernel
theorem dJ0_isLatin1_aae02_17 : decode cJ0_isLatin1_aae02 17 = .ok (.iconst 0, 1) := by decide +kernel
theorem dJ0_isLatin1_aae02_18 : decode cJ0_isLatin1_aae02 18 = .ok (.ireturn, 1) := by decide +kernel
theorem dJ0_checkIndex_df160_0 : decode cJ0_checkIndex_df160 0 = .ok (.iload_n 0, 1) := by decide +kernel
theorem dJ0_checkIndex_df160_1 : decode cJ0_checkIndex_df160 1 = .ok (.iload_n 1, 1) := by decide +kernel
theorem dJ0_checkIndex_df160_2 : decode cJ0_checkIndex_df160 2 = .ok (.getstatic 1053, 3) := by decide +kernel
theorem dJ0_checkIndex_df160_5 : decode cJ0_checkIndex_df160 5 = .ok (.invokestatic 1059, 3) := by decide +kernel
theorem dJ0_checkIndex_df160_8 : decode cJ0_checkIndex_df160 8 = .ok (.pop, 1) := by decide +kernel
theorem dJ0_checkIndex_df160_9 : decode cJ0_checkIndex_df160 9 = .ok (.return_, 1) := by decide +kernel
theorem dJ1_charAt_3b067_0 : decode cJ1_charAt_3b067 0 = .ok (.iload_n 1, 1) := by decide +kernel
theorem dJ1_charAt_3b067_1 : decode cJ1_charAt_3b067 1 = .ok (.aload_n 0, 1) := by decide +kernel
theorem dJ1_charAt_3b067_2 : decode cJ1_charAt_3b067 2 = .ok (.arraylength, 1) := by decide +kernel
theorem dJ1_charAt_3b067_3 : decode cJ1_charAt_3b067 3 = .ok (.invokestatic 9, 3) := by decide +kernel
theorem dJ1_charAt_3b067_6 : decode cJ1_charAt_3b067 6 = .ok (.aload_n 0, 1) := by decide +kernel
theorem dJ1_charAt_3b067_7 : decode cJ1_charAt_3b067 7 = .ok (.iload_n 1, 1) := by decide +kernel
theorem dJ1_charAt_3b067_8 : decode cJ1_charAt_3b067 8 = .ok (.baload, 1) := by decide +kernel
theorem dJ1_charAt_3b067_9 : decode cJ1_charAt_3b067 9 = .ok (.sipush 255, 3) := by decide +kernel
theorem dJ1_charAt_3b067_12 : decode cJ1_charAt_3b067 12 = .ok (.iand, 1) := by decide +kernel
theorem dJ1_charAt_3b067_13 : decode cJ1_charAt_3b067 13 = .ok (.i2c, 1) := by decide +kernel
theorem dJ1_charAt_3b067_14 : decode cJ1_charAt_3b067 14 = .ok (.ireturn, 1) := by decide +kernel
theorem dJ2_getChar_3b067_0 : decode cJ2_getChar_3b067 0 = .ok (.getstatic 44, 3) := by decide +kernel
theorem dJ2_getChar_3b067_3 : decode cJ2_getChar_3b067 3 = .ok (.ifCond .ne 25, 3) := by decide +kernel
theorem dJ2_getChar_3b067_6 : decode cJ2_getChar_3b067 6 = .ok (.iload_n 1, 1) := by decide +kernel
theorem dJ2_getChar_3b067_7 : decode cJ2_getChar_3b067 7 = .ok (.ifCond .lt 11, 3) := by decide +kernel
theorem dJ2_getChar_3b067_10 : decode cJ2_getChar_3b067 10 = .ok (.iload_n 1, 1) := by decide +kernel
theorem dJ2_getChar_3b067_11 : decode cJ2_getChar_3b067 11 = .ok (.aload_n 0, 1) := by decide +kernel
theorem dJ2_getChar_3b067_12 : decode cJ2_getChar_3b067 12 = .ok (.invokestatic 48, 3) := by decide +kernel
theorem dJ2_getChar_3b067_15 : decode cJ2_getChar_3b067 15 = .ok (.if_icmp .lt 13, 3) := by decide +kernel
theorem dJ2_getChar_3b067_18 : decode cJ2_getChar_3b067 18 = .ok (.new 52, 3) := by decide +kernel
theorem dJ2_getChar_3b067_21 : decode cJ2_getChar_3b067 21 = .ok (.dup, 1) := by decide +kernel
theorem dJ2_getChar_3b067_22 : decode cJ2_getChar_3b067 22 = .ok (.ldc 54, 2) := by decide +kernel
theorem dJ2_getChar_3b067_24 : decode cJ2_getChar_3b067 24 = .ok (.invokespecial 56, 3) := by decide +kernel
theorem dJ2_getChar_3b067_27 : decode cJ2_getChar_3b067 27 = .ok (.athrow, 1) := by decide +kernel
theorem dJ2_getChar_3b067_28 : decode cJ2_getChar_3b067 28 = .ok (.iload_n 1, 1) := by decide +kernel
theorem dJ2_getChar_3b067_29 : decode cJ2_getChar_3b067 29 = .ok (.iconst 1, 1) := by decide +kernel
theorem dJ2_getChar_3b067_30 : decode cJ2_getChar_3b067 30 = .ok (.ishl, 1) := by decide +kernel
theorem dJ2_getChar_3b067_31 : decode cJ2_getChar_3b067 31 = .ok (.istore_n 1, 1) := by decide +kernel
theorem dJ2_getChar_3b067_32 : decode cJ2_getChar_3b067 32 = .ok (.aload_n 0, 1) := by decide +kernel
theorem dJ2_getChar_3b067_33 : decode cJ2_getChar_3b067 33 = .ok (.iload_n 1, 1) := by decide +kernel
theorem dJ2_getChar_3b067_34 : decode cJ2_getChar_3b067 34 = .ok (.iinc 1 1, 3) := by decide +kernel
theorem dJ2_getChar_3b067_37 : decode cJ2_getChar_3b067 37 = .ok (.baload, 1) := by decide +kernel
theorem dJ2_getChar_3b067_38 : decode cJ2_getChar_3b067 38 = .ok (.sipush 255, 3) := by decide +kernel
theorem dJ2_getChar_3b067_41 : decode cJ2_getChar_3b067 41 = .ok (.iand, 1) := by decide +kernel
theorem dJ2_getChar_3b067_42 : decode cJ2_getChar_3b067 42 = .ok (.getstatic 59, 3) := by decide +kernel
theorem dJ2_getChar_3b067_45 : decode cJ2_getChar_3b067 45 = .ok (.ishl, 1) := by decide +kernel
theorem dJ2_getChar_3b067_46 : decode cJ2_getChar_3b067 46 = .ok (.aload_n 0, 1) := by decide +kernel
theorem dJ2_getChar_3b067_47 : decode cJ2_getChar_3b067 47 = .ok (.iload_n 1, 1) := by decide +kernel
theorem dJ2_getChar_3b067_48 : decode cJ2_getChar_3b067 48 = .ok (.baload, 1) := by decide +kernel
theorem dJ2_getChar_3b067_49 : decode cJ2_getChar_3b067 49 = .ok (.sipush 255, 3) := by decide +kernel
theorem dJ2_getChar_3b067_52 : decode cJ2_getChar_3b067 52 = .ok (.iand, 1) := by decide +kernel
theorem dJ2_getChar_3b067_53 : decode cJ2_getChar_3b067 53 = .ok (.getstatic 63, 3) := by decide +kernel
theorem dJ2_getChar_3b067_56 : decode cJ2_getChar_3b067 56 = .ok (.ishl, 1) := by decide +kernel
theorem dJ2_getChar_3b067_57 : decode cJ2_getChar_3b067 57 = .ok (.ior, 1) := by decide +kernel
theorem dJ2_getChar_3b067_58 : decode cJ2_getChar_3b067 58 = .ok (.i2c, 1) := by decide +kernel
theorem dJ2_getChar_3b067_59 : decode cJ2_getChar_3b067 59 = .ok (.ireturn, 1) := by decide +kernel
theorem dJ2_length_9d52b_0 : decode cJ2_length_9d52b 0 = .ok (.aload_n 0, 1) := by decide +kernel
theorem dJ2_length_9d52b_1 : decode cJ2_length_9d52b 1 = .ok (.arraylength, 1) := by decide +kernel
theorem dJ2_length_9d52b_2 : decode cJ2_length_9d52b 2 = .ok (.iconst 1, 1) := by decide +kernel
theorem dJ2_length_9d52b_3 : decode cJ2_length_9d52b 3 = .ok (.ishr, 1) := by decide +kernel
theorem dJ2_length_9d52b_4 : decode cJ2_length_9d52b 4 = .ok (.ireturn, 1) := by decide +kernel
theorem dJ2_charAt_3b067_0 : decode cJ2_charAt_3b067 0 = .ok (.iload_n 1, 1) := by decide +kernel
theorem dJ2_charAt_3b067_1 : decode cJ2_charAt_3b067 1 = .ok (.aload_n 0, 1) := by decide +kernel
theorem dJ2_charAt_3b067_2 : decode cJ2_charAt_3b067 2 = .ok (.invokestatic 67, 3) := by decide +kernel
theorem dJ2_charAt_3b067_5 : decode cJ2_charAt_3b067 5 = .ok (.aload_n 0, 1) := by decide +kernel
theorem dJ2_charAt_3b067_6 : decode cJ2_charAt_3b067 6 = .ok (.iload_n 1, 1) := by decide +kernel
theorem dJ2_charAt_3b067_7 : decode cJ2_charAt_3b067 7 = .ok (.invokestatic 71, 3) := by decide +kernel
theorem dJ2_charAt_3b067_10 : decode cJ2_charAt_3b067 10 = .ok (.ireturn, 1) := by decide +kernel
theorem dJ2_checkIndex_2214a_0 : decode cJ2_checkIndex_2214a 0 = .ok (.iload_n 0, 1) := by decide +kernel
theorem dJ2_checkIndex_2214a_1 : decode cJ2_checkIndex_2214a 1 = .ok (.aload_n 1, 1) := by decide +kernel
theorem dJ2_checkIndex_2214a_2 : decode cJ2_checkIndex_2214a 2 = .ok (.invokestatic 48, 3) := by decide +kernel
theorem dJ2_checkIndex_2214a_5 : decode cJ2_checkIndex_2214a 5 = .ok (.invokestatic 414, 3) := by decide +kernel
theorem dJ2_checkIndex_2214a_8 : decode cJ2_checkIndex_2214a 8 = .ok (.return_, 1) := by decide +kernel
theorem dJ7_fill_d0a16_0 : decode cJ7_fill_d0a16 0 = .ok (.iconst 0, 1) := by decide +kernel
theorem dJ7_fill_d0a16_1 : decode cJ7_fill_d0a16 1 = .ok (.istore_n 3, 1) := by decide +kernel
theorem dJ7_fill_d0a16_2 : decode cJ7_fill_d0a16 2 = .ok (.aload_n 0, 1) := by decide +kernel
theorem dJ7_fill_d0a16_3 : decode cJ7_fill_d0a16 3 = .ok (.arraylength, 1) := by decide +kernel
theorem dJ7_fill_d0a16_4 : decode cJ7_fill_d0a16 4 = .ok (.istore 4, 2) := by decide +kernel
theorem dJ7_fill_d0a16_6 : decode cJ7_fill_d0a16 6 = .ok (.iload_n 3, 1) := by decide +kernel
theorem dJ7_fill_d0a16_7 : decode cJ7_fill_d0a16 7 = .ok (.iload 4, 2) := by decide +kernel
theorem dJ7_fill_d0a16_9 : decode cJ7_fill_d0a16 9 = .ok (.if_icmp .ge 13, 3) := by decide +kernel
theorem dJ7_fill_d0a16_12 : decode cJ7_fill_d0a16 12 = .ok (.aload_n 0, 1) := by decide +kernel
theorem dJ7_fill_d0a16_13 : decode cJ7_fill_d0a16 13 = .ok (.iload_n 3, 1) := by decide +kernel
theorem dJ7_fill_d0a16_14 : decode cJ7_fill_d0a16 14 = .ok (.lload_n 1, 1) := by decide +kernel
theorem dJ7_fill_d0a16_15 : decode cJ7_fill_d0a16 15 = .ok (.lastore, 1) := by decide +kernel
theorem dJ7_fill_d0a16_16 : decode cJ7_fill_d0a16 16 = .ok (.iinc 3 1, 3) := by decide +kernel
theorem dJ7_fill_d0a16_19 : decode cJ7_fill_d0a16 19 = .ok (.goto (-13), 3) := by decide +kernel
theorem dJ7_fill_d0a16_22 : decode cJ7_fill_d0a16 22 = .ok (.return_, 1) := by decide +kernel
theorem dJ3_checkIndex_8e157_0 : decode cJ3_checkIndex_8e157 0 = .ok (.iload_n 0, 1) := by decide +kernel
theorem dJ3_checkIndex_8e157_1 : decode cJ3_checkIndex_8e157 1 = .ok (.ifCond .lt 8, 3) := by decide +kernel
theorem dJ3_checkIndex_8e157_4 : decode cJ3_checkIndex_8e157 4 = .ok (.iload_n 0, 1) := by decide +kernel
theorem dJ3_checkIndex_8e157_5 : decode cJ3_checkIndex_8e157 5 = .ok (.iload_n 1, 1) := by decide +kernel
theorem dJ3_checkIndex_8e157_6 : decode cJ3_checkIndex_8e157 6 = .ok (.if_icmp .lt 10, 3) := by decide +kernel
theorem dJ3_checkIndex_8e157_9 : decode cJ3_checkIndex_8e157 9 = .ok (.aload_n 2, 1) := by decide +kernel
theorem dJ3_checkIndex_8e157_10 : decode cJ3_checkIndex_8e157 10 = .ok (.iload_n 0, 1) := by decide +kernel
theorem dJ3_checkIndex_8e157_11 : decode cJ3_checkIndex_8e157 11 = .ok (.iload_n 1, 1) := by decide +kernel
theorem dJ3_checkIndex_8e157_12 : decode cJ3_checkIndex_8e157 12 = .ok (.invokestatic 95, 3) := by decide +kernel
theorem dJ3_checkIndex_8e157_15 : decode cJ3_checkIndex_8e157 15 = .ok (.athrow, 1) := by decide +kernel
theorem dJ3_checkIndex_8e157_16 : decode cJ3_checkIndex_8e157 16 = .ok (.iload_n 0, 1) := by decide +kernel
theorem dJ3_checkIndex_8e157_17 : decode cJ3_checkIndex_8e157 17 = .ok (.ireturn, 1) := by decide +kernel
theorem dL_law_0 : decode cL_law 0 = .ok (.new 7, 3) := by decide +kernel
theorem dL_law_3 : decode cL_law 3 = .ok (.dup, 1) := by decide +kernel
theorem dL_law_4 : decode cL_law 4 = .ok (.invokespecial 9, 3) := by decide +kernel
theorem dL_law_7 : decode cL_law 7 = .ok (.astore_n 1, 1) := by decide +kernel
theorem dL_law_8 : decode cL_law 8 = .ok (.new 10, 3) := by decide +kernel
theorem dL_law_11 : decode cL_law 11 = .ok (.dup, 1) := by decide +kernel
theorem dL_law_12 : decode cL_law 12 = .ok (.invokespecial 12, 3) := by decide +kernel
theorem dL_law_15 : decode cL_law 15 = .ok (.astore_n 2, 1) := by decide +kernel
theorem dL_law_16 : decode cL_law 16 = .ok (.iconst 0, 1) := by decide +kernel
theorem dL_law_17 : decode cL_law 17 = .ok (.istore_n 3, 1) := by decide +kernel
theorem dL_law_18 : decode cL_law 18 = .ok (.iload_n 3, 1) := by decide +kernel
theorem dL_law_19 : decode cL_law 19 = .ok (.aload_n 0, 1) := by decide +kernel
theorem dL_law_20 : decode cL_law 20 = .ok (.arraylength, 1) := by decide +kernel
theorem dL_law_21 : decode cL_law 21 = .ok (.iconst 5, 1) := by decide +kernel
theorem dL_law_22 : decode cL_law 22 = .ok (.isub, 1) := by decide +kernel
theorem dL_law_23 : decode cL_law 23 = .ok (.if_icmp .gt 957, 3) := by decide +kernel
theorem dL_law_26 : decode cL_law 26 = .ok (.aload_n 0, 1) := by decide +kernel
theorem dL_law_27 : decode cL_law 27 = .ok (.iload_n 3, 1) := by decide +kernel
theorem dL_law_28 : decode cL_law 28 = .ok (.iaload, 1) := by decide +kernel
theorem dL_law_29 : decode cL_law 29 = .ok (.bipush 31, 2) := by decide +kernel
theorem dL_law_31 : decode cL_law 31 = .ok (.iand, 1) := by decide +kernel
theorem dL_law_32 : decode cL_law 32 = .ok (.tableswitch 942 0 26 #[124, 193, 236, 269, 302, 325, 348, 361, 424, 437, 450, 483, 496, 539, 562, 585, 608, 631, 664, 697, 740, 783, 836, 859, 882, 905, 928], 124) := by decide +kernel
theorem dL_law_156 : decode cL_law 156 = .ok (.aload_n 1, 1) := by decide +kernel
theorem dL_law_157 : decode cL_law 157 = .ok (.aload_n 0, 1) := by decide +kernel
theorem dL_law_158 : decode cL_law 158 = .ok (.iload_n 3, 1) := by decide +kernel
theorem dL_law_159 : decode cL_law 159 = .ok (.iconst 1, 1) := by decide +kernel
theorem dL_law_160 : decode cL_law 160 = .ok (.iadd, 1) := by decide +kernel
theorem dL_law_161 : decode cL_law 161 = .ok (.iaload, 1) := by decide +kernel
theorem dL_law_162 : decode cL_law 162 = .ok (.aload_n 0, 1) := by decide +kernel
theorem dL_law_163 : decode cL_law 163 = .ok (.iload_n 3, 1) := by decide +kernel
theorem dL_law_164 : decode cL_law 164 = .ok (.iconst 2, 1) := by decide +kernel
theorem dL_law_165 : decode cL_law 165 = .ok (.iadd, 1) := by decide +kernel
theorem dL_law_166 : decode cL_law 166 = .ok (.iaload, 1) := by decide +kernel
theorem dL_law_167 : decode cL_law 167 = .ok (.aload_n 0, 1) := by decide +kernel
theorem dL_law_168 : decode cL_law 168 = .ok (.iload_n 3, 1) := by decide +kernel
theorem dL_law_169 : decode cL_law 169 = .ok (.iconst 3, 1) := by decide +kernel
theorem dL_law_170 : decode cL_law 170 = .ok (.iadd, 1) := by decide +kernel
theorem dL_law_171 : decode cL_law 171 = .ok (.iaload, 1) := by decide +kernel
theorem dL_law_172 : decode cL_law 172 = .ok (.aload_n 0, 1) := by decide +kernel
theorem dL_law_173 : decode cL_law 173 = .ok (.iload_n 3, 1) := by decide +kernel
theorem dL_law_174 : decode cL_law 174 = .ok (.iconst 4, 1) := by decide +kernel
theorem dL_law_175 : decode cL_law 175 = .ok (.iadd, 1) := by decide +kernel
theorem dL_law_176 : decode cL_law 176 = .ok (.iaload, 1) := by decide +kernel
theorem dL_law_177 : decode cL_law 177 = .ok (.ifCond .eq 7, 3) := by decide +kernel
theorem dL_law_180 : decode cL_law 180 = .ok (.iconst 1, 1) := by decide +kernel
theorem dL_law_181 : decode cL_law 181 = .ok (.goto 4, 3) := by decide +kernel
theorem dL_law_184 : decode cL_law 184 = .ok (.iconst 0, 1) := by decide +kernel
theorem dL_law_185 : decode cL_law 185 = .ok (.invokevirtual 13, 3) := by decide +kernel
theorem dL_law_188 : decode cL_law 188 = .ok (.aload_n 2, 1) := by decide +kernel
theorem dL_law_189 : decode cL_law 189 = .ok (.aload_n 0, 1) := by decide +kernel
theorem dL_law_190 : decode cL_law 190 = .ok (.iload_n 3, 1) := by decide +kernel
theorem dL_law_191 : decode cL_law 191 = .ok (.iconst 1, 1) := by decide +kernel
theorem dL_law_192 : decode cL_law 192 = .ok (.iadd, 1) := by decide +kernel
theorem dL_law_193 : decode cL_law 193 = .ok (.iaload, 1) := by decide +kernel
theorem dL_law_194 : decode cL_law 194 = .ok (.aload_n 0, 1) := by decide +kernel
theorem dL_law_195 : decode cL_law 195 = .ok (.iload_n 3, 1) := by decide +kernel
theorem dL_law_196 : decode cL_law 196 = .ok (.iconst 2, 1) := by decide +kernel
theorem dL_law_197 : decode cL_law 197 = .ok (.iadd, 1) := by decide +kernel
theorem dL_law_198 : decode cL_law 198 = .ok (.iaload, 1) := by decide +kernel
theorem dL_law_199 : decode cL_law 199 = .ok (.aload_n 0, 1) := by decide +kernel
theorem dL_law_200 : decode cL_law 200 = .ok (.iload_n 3, 1) := by decide +kernel
theorem dL_law_201 : decode cL_law 201 = .ok (.iconst 3, 1) := by decide +kernel
theorem dL_law_202 : decode cL_law 202 = .ok (.iadd, 1) := by decide +kernel
theorem dL_law_203 : decode cL_law 203 = .ok (.iaload, 1) := by decide +kernel
theorem dL_law_204 : decode cL_law 204 = .ok (.aload_n 0, 1) := by decide +kernel
theorem dL_law_205 : decode cL_law 205 = .ok (.iload_n 3, 1) := by decide +kernel
theorem dL_law_206 : decode cL_law 206 = .ok (.iconst 4, 1) := by decide +kernel
theorem dL_law_207 : decode cL_law 207 = .ok (.iadd, 1) := by decide +kernel
theorem dL_law_208 : decode cL_law 208 = .ok (.iaload, 1) := by decide +kernel
theorem dL_law_209 : decode cL_law 209 = .ok (.ifCond .eq 7, 3) := by decide +kernel
theorem dL_law_212 : decode cL_law 212 = .ok (.iconst 1, 1) := by decide +kernel
theorem dL_law_213 : decode cL_law 213 = .ok (.goto 4, 3) := by decide +kernel
theorem dL_law_216 : decode cL_law 216 = .ok (.iconst 0, 1) := by decide +kernel
theorem dL_law_217 : decode cL_law 217 = .ok (.invokevirtual 17, 3) := by decide +kernel
theorem dL_law_220 : decode cL_law 220 = .ok (.if_icmp .eq 754, 3) := by decide +kernel
theorem dL_law_223 : decode cL_law 223 = .ok (.iconst 0, 1) := by decide +kernel
theorem dL_law_224 : decode cL_law 224 = .ok (.ireturn, 1) := by decide +kernel
theorem dL_law_225 : decode cL_law 225 = .ok (.aload_n 1, 1) := by decide +kernel
theorem dL_law_226 : decode cL_law 226 = .ok (.aload_n 0, 1) := by decide +kernel
theorem dL_law_227 : decode cL_law 227 = .ok (.iload_n 3, 1) := by decide +kernel
theorem dL_law_228 : decode cL_law 228 = .ok (.iconst 1, 1) := by decide +kernel
theorem dL_law_229 : decode cL_law 229 = .ok (.iadd, 1) := by decide +kernel
theorem dL_law_230 : decode cL_law 230 = .ok (.iaload, 1) := by decide +kernel
theorem dL_law_231 : decode cL_law 231 = .ok (.aload_n 0, 1) := by decide +kernel
theorem dL_law_232 : decode cL_law 232 = .ok (.iload_n 3, 1) := by decide +kernel
theorem dL_law_233 : decode cL_law 233 = .ok (.iconst 2, 1) := by decide +kernel
theorem dL_law_234 : decode cL_law 234 = .ok (.iadd, 1) := by decide +kernel
theorem dL_law_235 : decode cL_law 235 = .ok (.iaload, 1) := by decide +kernel
theorem dL_law_236 : decode cL_law 236 = .ok (.aload_n 0, 1) := by decide +kernel
theorem dL_law_237 : decode cL_law 237 = .ok (.iload_n 3, 1) := by decide +kernel
theorem dL_law_238 : decode cL_law 238 = .ok (.iconst 3, 1) := by decide +kernel
theorem dL_law_239 : decode cL_law 239 = .ok (.iadd, 1) := by decide +kernel
theorem dL_law_240 : decode cL_law 240 = .ok (.iaload, 1) := by decide +kernel
theorem dL_law_241 : decode cL_law 241 = .ok (.invokevirtual 18, 3) := by decide +kernel
theorem dL_law_244 : decode cL_law 244 = .ok (.aload_n 2, 1) := by decide +kernel
theorem dL_law_245 : decode cL_law 245 = .ok (.aload_n 0, 1) := by decide +kernel
theorem dL_law_246 : decode cL_law 246 = .ok (.iload_n 3, 1) := by decide +kernel
theorem dL_law_247 : decode cL_law 247 = .ok (.iconst 1, 1) := by decide +kernel
theorem dL_law_248 : decode cL_law 248 = .ok (.iadd, 1) := by decide +kernel
theorem dL_law_249 : decode cL_law 249 = .ok (.iaload, 1) := by decide +kernel
theorem dL_law_250 : decode cL_law 250 = .ok (.aload_n 0, 1) := by decide +kernel
theorem dL_law_251 : decode cL_law 251 = .ok (.iload_n 3, 1) := by decide +kernel
theorem dL_law_252 : decode cL_law 252 = .ok (.iconst 2, 1) := by decide +kernel
theorem dL_law_253 : decode cL_law 253 = .ok (.iadd, 1) := by decide +kernel
theorem dL_law_254 : decode cL_law 254 = .ok (.iaload, 1) := by decide +kernel
theorem dL_law_255 : decode cL_law 255 = .ok (.aload_n 0, 1) := by decide +kernel
theorem dL_law_256 : decode cL_law 256 = .ok (.iload_n 3, 1) := by decide +kernel
theorem dL_law_257 : decode cL_law 257 = .ok (.iconst 3, 1) := by decide +kernel
theorem dL_law_258 : decode cL_law 258 = .ok (.iadd, 1) := by decide +kernel
theorem dL_law_259 : decode cL_law 259 = .ok (.iaload, 1) := by decide +kernel
theorem dL_law_260 : decode cL_law 260 = .ok (.invokevirtual 22, 3) := by decide +kernel
theorem dL_law_263 : decode cL_law 263 = .ok (.if_icmp .eq 711, 3) := by decide +kernel
theorem dL_law_266 : decode cL_law 266 = .ok (.iconst 0, 1) := by decide +kernel
theorem dL_law_267 : decode cL_law 267 = .ok (.ireturn, 1) := by decide +kernel
theorem dL_law_268 : decode cL_law 268 = .ok (.aload_n 1, 1) := by decide +kernel
theorem dL_law_269 : decode cL_law 269 = .ok (.aload_n 0, 1) := by decide +kernel
theorem dL_law_270 : decode cL_law 270 = .ok (.iload_n 3, 1) := by decide +kernel
theorem dL_law_271 : decode cL_law 271 = .ok (.iconst 1, 1) := by decide +kernel
theorem dL_law_272 : decode cL_law 272 = .ok (.iadd, 1) := by decide +kernel
theorem dL_law_273 : decode cL_law 273 = .ok (.iaload, 1) := by decide +kernel
theorem dL_law_274 : decode cL_law 274 = .ok (.aload_n 0, 1) := by decide +kernel
theorem dL_law_275 : decode cL_law 275 = .ok (.iload_n 3, 1) := by decide +kernel
theorem dL_law_276 : decode cL_law 276 = .ok (.iconst 2, 1) := by decide +kernel
theorem dL_law_277 : decode cL_law 277 = .ok (.iadd, 1) := by decide +kernel
theorem dL_law_278 : decode cL_law 278 = .ok (.iaload, 1) := by decide +kernel
theorem dL_law_279 : decode cL_law 279 = .ok (.invokevirtual 23, 3) := by decide +kernel
theorem dL_law_282 : decode cL_law 282 = .ok (.aload_n 2, 1) := by decide +kernel
theorem dL_law_283 : decode cL_law 283 = .ok (.aload_n 0, 1) := by decide +kernel
theorem dL_law_284 : decode cL_law 284 = .ok (.iload_n 3, 1) := by decide +kernel
theorem dL_law_285 : decode cL_law 285 = .ok (.iconst 1, 1) := by decide +kernel
theorem dL_law_286 : decode cL_law 286 = .ok (.iadd, 1) := by decide +kernel
theorem dL_law_287 : decode cL_law 287 = .ok (.iaload, 1) := by decide +kernel
theorem dL_law_288 : decode cL_law 288 = .ok (.aload_n 0, 1) := by decide +kernel
theorem dL_law_289 : decode cL_law 289 = .ok (.iload_n 3, 1) := by decide +kernel
theorem dL_law_290 : decode cL_law 290 = .ok (.iconst 2, 1) := by decide +kernel
theorem dL_law_291 : decode cL_law 291 = .ok (.iadd, 1) := by decide +kernel
theorem dL_law_292 : decode cL_law 292 = .ok (.iaload, 1) := by decide +kernel
theorem dL_law_293 : decode cL_law 293 = .ok (.invokevirtual 27, 3) := by decide +kernel
theorem dL_law_296 : decode cL_law 296 = .ok (.if_icmp .eq 678, 3) := by decide +kernel
theorem dL_law_299 : decode cL_law 299 = .ok (.iconst 0, 1) := by decide +kernel
theorem dL_law_300 : decode cL_law 300 = .ok (.ireturn, 1) := by decide +kernel
theorem dL_law_301 : decode cL_law 301 = .ok (.aload_n 1, 1) := by decide +kernel
theorem dL_law_302 : decode cL_law 302 = .ok (.aload_n 0, 1) := by decide +kernel
theorem dL_law_303 : decode cL_law 303 = .ok (.iload_n 3, 1) := by decide +kernel
theorem dL_law_304 : decode cL_law 304 = .ok (.iconst 1, 1) := by decide +kernel
theorem dL_law_305 : decode cL_law 305 = .ok (.iadd, 1) := by decide +kernel
theorem dL_law_306 : decode cL_law 306 = .ok (.iaload, 1) := by decide +kernel
theorem dL_law_307 : decode cL_law 307 = .ok (.aload_n 0, 1) := by decide +kernel
theorem dL_law_308 : decode cL_law 308 = .ok (.iload_n 3, 1) := by decide +kernel
theorem dL_law_309 : decode cL_law 309 = .ok (.iconst 2, 1) := by decide +kernel
theorem dL_law_310 : decode cL_law 310 = .ok (.iadd, 1) := by decide +kernel
theorem dL_law_311 : decode cL_law 311 = .ok (.iaload, 1) := by decide +kernel
theorem dL_law_312 : decode cL_law 312 = .ok (.invokevirtual 28, 3) := by decide +kernel
theorem dL_law_315 : decode cL_law 315 = .ok (.aload_n 2, 1) := by decide +kernel
theorem dL_law_316 : decode cL_law 316 = .ok (.aload_n 0, 1) := by decide +kernel
theorem dL_law_317 : decode cL_law 317 = .ok (.iload_n 3, 1) := by decide +kernel
theorem dL_law_318 : decode cL_law 318 = .ok (.iconst 1, 1) := by decide +kernel
theorem dL_law_319 : decode cL_law 319 = .ok (.iadd, 1) := by decide +kernel
theorem dL_law_320 : decode cL_law 320 = .ok (.iaload, 1) := by decide +kernel
theorem dL_law_321 : decode cL_law 321 = .ok (.aload_n 0, 1) := by decide +kernel
theorem dL_law_322 : decode cL_law 322 = .ok (.iload_n 3, 1) := by decide +kernel
theorem dL_law_323 : decode cL_law 323 = .ok (.iconst 2, 1) := by decide +kernel
theorem dL_law_324 : decode cL_law 324 = .ok (.iadd, 1) := by decide +kernel
theorem dL_law_325 : decode cL_law 325 = .ok (.iaload, 1) := by decide +kernel
theorem dL_law_326 : decode cL_law 326 = .ok (.invokevirtual 31, 3) := by decide +kernel
theorem dL_law_329 : decode cL_law 329 = .ok (.if_icmp .eq 645, 3) := by decide +kernel
theorem dL_law_332 : decode cL_law 332 = .ok (.iconst 0, 1) := by decide +kernel
theorem dL_law_333 : decode cL_law 333 = .ok (.ireturn, 1) := by decide +kernel
theorem dL_law_334 : decode cL_law 334 = .ok (.aload_n 1, 1) := by decide +kernel
theorem dL_law_335 : decode cL_law 335 = .ok (.aload_n 0, 1) := by decide +kernel
theorem dL_law_336 : decode cL_law 336 = .ok (.iload_n 3, 1) := by decide +kernel
theorem dL_law_337 : decode cL_law 337 = .ok (.iconst 1, 1) := by decide +kernel
theorem dL_law_338 : decode cL_law 338 = .ok (.iadd, 1) := by decide +kernel
theorem dL_law_339 : decode cL_law 339 = .ok (.iaload, 1) := by decide +kernel
theorem dL_law_340 : decode cL_law 340 = .ok (.invokevirtual 32, 3) := by decide +kernel
theorem dL_law_343 : decode cL_law 343 = .ok (.aload_n 2, 1) := by decide +kernel
theorem dL_law_344 : decode cL_law 344 = .ok (.aload_n 0, 1) := by decide +kernel
theorem dL_law_345 : decode cL_law 345 = .ok (.iload_n 3, 1) := by decide +kernel
theorem dL_law_346 : decode cL_law 346 = .ok (.iconst 1, 1) := by decide +kernel
theorem dL_law_347 : decode cL_law 347 = .ok (.iadd, 1) := by decide +kernel
theorem dL_law_348 : decode cL_law 348 = .ok (.iaload, 1) := by decide +kernel
theorem dL_law_349 : decode cL_law 349 = .ok (.invokevirtual 36, 3) := by decide +kernel
theorem dL_law_352 : decode cL_law 352 = .ok (.if_icmp .eq 622, 3) := by decide +kernel
theorem dL_law_355 : decode cL_law 355 = .ok (.iconst 0, 1) := by decide +kernel
theorem dL_law_356 : decode cL_law 356 = .ok (.ireturn, 1) := by decide +kernel
theorem dL_law_357 : decode cL_law 357 = .ok (.aload_n 1, 1) := by decide +kernel
theorem dL_law_358 : decode cL_law 358 = .ok (.aload_n 0, 1) := by decide +kernel
theorem dL_law_359 : decode cL_law 359 = .ok (.iload_n 3, 1) := by decide +kernel
theorem dL_law_360 : decode cL_law 360 = .ok (.iconst 1, 1) := by decide +kernel
theorem dL_law_361 : decode cL_law 361 = .ok (.iadd, 1) := by decide +kernel
theorem dL_law_362 : decode cL_law 362 = .ok (.iaload, 1) := by decide +kernel
theorem dL_law_363 : decode cL_law 363 = .ok (.invokevirtual 37, 3) := by decide +kernel
theorem dL_law_366 : decode cL_law 366 = .ok (.aload_n 2, 1) := by decide +kernel
theorem dL_law_367 : decode cL_law 367 = .ok (.aload_n 0, 1) := by decide +kernel
theorem dL_law_368 : decode cL_law 368 = .ok (.iload_n 3, 1) := by decide +kernel
theorem dL_law_369 : decode cL_law 369 = .ok (.iconst 1, 1) := by decide +kernel
theorem dL_law_370 : decode cL_law 370 = .ok (.iadd, 1) := by decide +kernel
theorem dL_law_371 : decode cL_law 371 = .ok (.iaload, 1) := by decide +kernel
theorem dL_law_372 : decode cL_law 372 = .ok (.invokevirtual 40, 3) := by decide +kernel
theorem dL_law_375 : decode cL_law 375 = .ok (.if_icmp .eq 599, 3) := by decide +kernel
theorem dL_law_378 : decode cL_law 378 = .ok (.iconst 0, 1) := by decide +kernel
theorem dL_law_379 : decode cL_law 379 = .ok (.ireturn, 1) := by decide +kernel
theorem dL_law_380 : decode cL_law 380 = .ok (.aload_n 1, 1) := by decide +kernel
theorem dL_law_381 : decode cL_law 381 = .ok (.invokevirtual 41, 3) := by decide +kernel
theorem dL_law_384 : decode cL_law 384 = .ok (.aload_n 2, 1) := by decide +kernel
theorem dL_law_385 : decode cL_law 385 = .ok (.invokevirtual 45, 3) := by decide +kernel
theorem dL_law_388 : decode cL_law 388 = .ok (.if_icmp .eq 586, 3) := by decide +kernel
theorem dL_law_391 : decode cL_law 391 = .ok (.iconst 0, 1) := by decide +kernel
theorem dL_law_392 : decode cL_law 392 = .ok (.ireturn, 1) := by decide +kernel
theorem dL_law_393 : decode cL_law 393 = .ok (.aload_n 1, 1) := by decide +kernel
theorem dL_law_394 : decode cL_law 394 = .ok (.aload_n 0, 1) := by decide +kernel
theorem dL_law_395 : decode cL_law 395 = .ok (.iload_n 3, 1) := by decide +kernel
theorem dL_law_396 : decode cL_law 396 = .ok (.iconst 1, 1) := by decide +kernel
theorem dL_law_397 : decode cL_law 397 = .ok (.iadd, 1) := by decide +kernel
theorem dL_law_398 : decode cL_law 398 = .ok (.iaload, 1) := by decide +kernel
theorem dL_law_399 : decode cL_law 399 = .ok (.i2l, 1) := by decide +kernel
theorem dL_law_400 : decode cL_law 400 = .ok (.bipush 32, 2) := by decide +kernel
theorem dL_law_402 : decode cL_law 402 = .ok (.lshl, 1) := by decide +kernel
theorem dL_law_403 : decode cL_law 403 = .ok (.aload_n 0, 1) := by decide +kernel
theorem dL_law_404 : decode cL_law 404 = .ok (.iload_n 3, 1) := by decide +kernel
theorem dL_law_405 : decode cL_law 405 = .ok (.iconst 2, 1) := by decide +kernel
theorem dL_law_406 : decode cL_law 406 = .ok (.iadd, 1) := by decide +kernel
theorem dL_law_407 : decode cL_law 407 = .ok (.iaload, 1) := by decide +kernel
theorem dL_law_408 : decode cL_law 408 = .ok (.i2l, 1) := by decide +kernel
theorem dL_law_409 : decode cL_law 409 = .ok (.ldc2_w 46, 3) := by decide +kernel
theorem dL_law_412 : decode cL_law 412 = .ok (.land, 1) := by decide +kernel
theorem dL_law_413 : decode cL_law 413 = .ok (.lor, 1) := by decide +kernel
theorem dL_law_414 : decode cL_law 414 = .ok (.aload_n 0, 1) := by decide +kernel
theorem dL_law_415 : decode cL_law 415 = .ok (.iload_n 3, 1) := by decide +kernel
theorem dL_law_416 : decode cL_law 416 = .ok (.iconst 3, 1) := by decide +kernel
theorem dL_law_417 : decode cL_law 417 = .ok (.iadd, 1) := by decide +kernel
theorem dL_law_418 : decode cL_law 418 = .ok (.iaload, 1) := by decide +kernel
theorem dL_law_419 : decode cL_law 419 = .ok (.invokevirtual 48, 3) := by decide +kernel
theorem dL_law_422 : decode cL_law 422 = .ok (.aload_n 2, 1) := by decide +kernel
theorem dL_law_423 : decode cL_law 423 = .ok (.aload_n 0, 1) := by decide +kernel
theorem dL_law_424 : decode cL_law 424 = .ok (.iload_n 3, 1) := by decide +kernel
theorem dL_law_425 : decode cL_law 425 = .ok (.iconst 1, 1) := by decide +kernel
theorem dL_law_426 : decode cL_law 426 = .ok (.iadd, 1) := by decide +kernel
theorem dL_law_427 : decode cL_law 427 = .ok (.iaload, 1) := by decide +kernel
theorem dL_law_428 : decode cL_law 428 = .ok (.i2l, 1) := by decide +kernel
theorem dL_law_429 : decode cL_law 429 = .ok (.bipush 32, 2) := by decide +kernel
theorem dL_law_431 : decode cL_law 431 = .ok (.lshl, 1) := by decide +kernel
theorem dL_law_432 : decode cL_law 432 = .ok (.aload_n 0, 1) := by decide +kernel
theorem dL_law_433 : decode cL_law 433 = .ok (.iload_n 3, 1) := by decide +kernel
theorem dL_law_434 : decode cL_law 434 = .ok (.iconst 2, 1) := by decide +kernel
theorem dL_law_435 : decode cL_law 435 = .ok (.iadd, 1) := by decide +kernel
theorem dL_law_436 : decode cL_law 436 = .ok (.iaload, 1) := by decide +kernel
theorem dL_law_437 : decode cL_law 437 = .ok (.i2l, 1) := by decide +kernel
theorem dL_law_438 : decode cL_law 438 = .ok (.ldc2_w 46, 3) := by decide +kernel
theorem dL_law_441 : decode cL_law 441 = .ok (.land, 1) := by decide +kernel
theorem dL_law_442 : decode cL_law 442 = .ok (.lor, 1) := by decide +kernel
theorem dL_law_443 : decode cL_law 443 = .ok (.aload_n 0, 1) := by decide +kernel
theorem dL_law_444 : decode cL_law 444 = .ok (.iload_n 3, 1) := by decide +kernel
theorem dL_law_445 : decode cL_law 445 = .ok (.iconst 3, 1) := by decide +kernel
theorem dL_law_446 : decode cL_law 446 = .ok (.iadd, 1) := by decide +kernel
theorem dL_law_447 : decode cL_law 447 = .ok (.iaload, 1) := by decide +kernel
theorem dL_law_448 : decode cL_law 448 = .ok (.invokevirtual 52, 3) := by decide +kernel
theorem dL_law_451 : decode cL_law 451 = .ok (.if_icmp .eq 523, 3) := by decide +kernel
theorem dL_law_454 : decode cL_law 454 = .ok (.iconst 0, 1) := by decide +kernel
theorem dL_law_455 : decode cL_law 455 = .ok (.ireturn, 1) := by decide +kernel
theorem dL_law_456 : decode cL_law 456 = .ok (.aload_n 1, 1) := by decide +kernel
theorem dL_law_457 : decode cL_law 457 = .ok (.invokevirtual 53, 3) := by decide +kernel
theorem dL_law_460 : decode cL_law 460 = .ok (.aload_n 2, 1) := by decide +kernel
theorem dL_law_461 : decode cL_law 461 = .ok (.invokevirtual 56, 3) := by decide +kernel
theorem dL_law_464 : decode cL_law 464 = .ok (.if_icmp .eq 510, 3) := by decide +kernel
theorem dL_law_467 : decode cL_law 467 = .ok (.iconst 0, 1) := by decide +kernel
theorem dL_law_468 : decode cL_law 468 = .ok (.ireturn, 1) := by decide +kernel
theorem dL_law_469 : decode cL_law 469 = .ok (.aload_n 1, 1) := by decide +kernel
theorem dL_law_470 : decode cL_law 470 = .ok (.invokevirtual 57, 3) := by decide +kernel
theorem dL_law_473 : decode cL_law 473 = .ok (.aload_n 2, 1) := by decide +kernel
theorem dL_law_474 : decode cL_law 474 = .ok (.invokevirtual 60, 3) := by decide +kernel
theorem dL_law_477 : decode cL_law 477 = .ok (.if_icmp .eq 497, 3) := by decide +kernel
theorem dL_law_480 : decode cL_law 480 = .ok (.iconst 0, 1) := by decide +kernel
theorem dL_law_481 : decode cL_law 481 = .ok (.ireturn, 1) := by decide +kernel
theorem dL_law_482 : decode cL_law 482 = .ok (.aload_n 1, 1) := by decide +kernel
theorem dL_law_483 : decode cL_law 483 = .ok (.aload_n 0, 1) := by decide +kernel
theorem dL_law_484 : decode cL_law 484 = .ok (.iload_n 3, 1) := by decide +kernel
theorem dL_law_485 : decode cL_law 485 = .ok (.iconst 1, 1) := by decide +kernel
theorem dL_law_486 : decode cL_law 486 = .ok (.iadd, 1) := by decide +kernel
theorem dL_law_487 : decode cL_law 487 = .ok (.iaload, 1) := by decide +kernel
theorem dL_law_488 : decode cL_law 488 = .ok (.aload_n 0, 1) := by decide +kernel
theorem dL_law_489 : decode cL_law 489 = .ok (.iload_n 3, 1) := by decide +kernel
theorem dL_law_490 : decode cL_law 490 = .ok (.iconst 2, 1) := by decide +kernel
theorem dL_law_491 : decode cL_law 491 = .ok (.iadd, 1) := by decide +kernel
theorem dL_law_492 : decode cL_law 492 = .ok (.iaload, 1) := by decide +kernel
theorem dL_law_493 : decode cL_law 493 = .ok (.invokevirtual 61, 3) := by decide +kernel
theorem dL_law_496 : decode cL_law 496 = .ok (.aload_n 2, 1) := by decide +kernel
theorem dL_law_497 : decode cL_law 497 = .ok (.aload_n 0, 1) := by decide +kernel
theorem dL_law_498 : decode cL_law 498 = .ok (.iload_n 3, 1) := by decide +kernel
theorem dL_law_499 : decode cL_law 499 = .ok (.iconst 1, 1) := by decide +kernel
theorem dL_law_500 : decode cL_law 500 = .ok (.iadd, 1) := by decide +kernel
theorem dL_law_501 : decode cL_law 501 = .ok (.iaload, 1) := by decide +kernel
theorem dL_law_502 : decode cL_law 502 = .ok (.aload_n 0, 1) := by decide +kernel
theorem dL_law_503 : decode cL_law 503 = .ok (.iload_n 3, 1) := by decide +kernel
theorem dL_law_504 : decode cL_law 504 = .ok (.iconst 2, 1) := by decide +kernel
theorem dL_law_505 : decode cL_law 505 = .ok (.iadd, 1) := by decide +kernel
theorem dL_law_506 : decode cL_law 506 = .ok (.iaload, 1) := by decide +kernel
theorem dL_law_507 : decode cL_law 507 = .ok (.invokevirtual 64, 3) := by decide +kernel
theorem dL_law_510 : decode cL_law 510 = .ok (.if_icmp .eq 464, 3) := by decide +kernel
theorem dL_law_513 : decode cL_law 513 = .ok (.iconst 0, 1) := by decide +kernel
theorem dL_law_514 : decode cL_law 514 = .ok (.ireturn, 1) := by decide +kernel
theorem dL_law_515 : decode cL_law 515 = .ok (.aload_n 1, 1) := by decide +kernel
theorem dL_law_516 : decode cL_law 516 = .ok (.invokevirtual 65, 3) := by decide +kernel
theorem dL_law_519 : decode cL_law 519 = .ok (.aload_n 2, 1) := by decide +kernel
theorem dL_law_520 : decode cL_law 520 = .ok (.invokevirtual 68, 3) := by decide +kernel
theorem dL_law_523 : decode cL_law 523 = .ok (.if_icmp .eq 451, 3) := by decide +kernel
theorem dL_law_526 : decode cL_law 526 = .ok (.iconst 0, 1) := by decide +kernel
theorem dL_law_527 : decode cL_law 527 = .ok (.ireturn, 1) := by decide +kernel
theorem dL_law_528 : decode cL_law 528 = .ok (.aload_n 1, 1) := by decide +kernel
theorem dL_law_529 : decode cL_law 529 = .ok (.aload_n 0, 1) := by decide +kernel
theorem dL_law_530 : decode cL_law 530 = .ok (.iload_n 3, 1) := by decide +kernel
theorem dL_law_531 : decode cL_law 531 = .ok (.iconst 1, 1) := by decide +kernel
theorem dL_law_532 : decode cL_law 532 = .ok (.iadd, 1) := by decide +kernel
theorem dL_law_533 : decode cL_law 533 = .ok (.iaload, 1) := by decide +kernel
theorem dL_law_534 : decode cL_law 534 = .ok (.aload_n 0, 1) := by decide +kernel
theorem dL_law_535 : decode cL_law 535 = .ok (.iload_n 3, 1) := by decide +kernel
theorem dL_law_536 : decode cL_law 536 = .ok (.iconst 2, 1) := by decide +kernel
theorem dL_law_537 : decode cL_law 537 = .ok (.iadd, 1) := by decide +kernel
theorem dL_law_538 : decode cL_law 538 = .ok (.iaload, 1) := by decide +kernel
theorem dL_law_539 : decode cL_law 539 = .ok (.aload_n 0, 1) := by decide +kernel
theorem dL_law_540 : decode cL_law 540 = .ok (.iload_n 3, 1) := by decide +kernel
theorem dL_law_541 : decode cL_law 541 = .ok (.iconst 3, 1) := by decide +kernel
theorem dL_law_542 : decode cL_law 542 = .ok (.iadd, 1) := by decide +kernel
theorem dL_law_543 : decode cL_law 543 = .ok (.iaload, 1) := by decide +kernel
theorem dL_law_544 : decode cL_law 544 = .ok (.invokevirtual 69, 3) := by decide +kernel
theorem dL_law_547 : decode cL_law 547 = .ok (.aload_n 2, 1) := by decide +kernel
theorem dL_law_548 : decode cL_law 548 = .ok (.aload_n 0, 1) := by decide +kernel
theorem dL_law_549 : decode cL_law 549 = .ok (.iload_n 3, 1) := by decide +kernel
theorem dL_law_550 : decode cL_law 550 = .ok (.iconst 1, 1) := by decide +kernel
theorem dL_law_551 : decode cL_law 551 = .ok (.iadd, 1) := by decide +kernel
theorem dL_law_552 : decode cL_law 552 = .ok (.iaload, 1) := by decide +kernel
theorem dL_law_553 : decode cL_law 553 = .ok (.aload_n 0, 1) := by decide +kernel
theorem dL_law_554 : decode cL_law 554 = .ok (.iload_n 3, 1) := by decide +kernel
theorem dL_law_555 : decode cL_law 555 = .ok (.iconst 2, 1) := by decide +kernel
theorem dL_law_556 : decode cL_law 556 = .ok (.iadd, 1) := by decide +kernel
theorem dL_law_557 : decode cL_law 557 = .ok (.iaload, 1) := by decide +kernel
theorem dL_law_558 : decode cL_law 558 = .ok (.aload_n 0, 1) := by decide +kernel
theorem dL_law_559 : decode cL_law 559 = .ok (.iload_n 3, 1) := by decide +kernel
theorem dL_law_560 : decode cL_law 560 = .ok (.iconst 3, 1) := by decide +kernel
theorem dL_law_561 : decode cL_law 561 = .ok (.iadd, 1) := by decide +kernel
theorem dL_law_562 : decode cL_law 562 = .ok (.iaload, 1) := by decide +kernel
theorem dL_law_563 : decode cL_law 563 = .ok (.invokevirtual 72, 3) := by decide +kernel
theorem dL_law_566 : decode cL_law 566 = .ok (.if_icmp .eq 408, 3) := by decide +kernel
theorem dL_law_569 : decode cL_law 569 = .ok (.iconst 0, 1) := by decide +kernel
theorem dL_law_570 : decode cL_law 570 = .ok (.ireturn, 1) := by decide +kernel
theorem dL_law_571 : decode cL_law 571 = .ok (.aload_n 1, 1) := by decide +kernel
theorem dL_law_572 : decode cL_law 572 = .ok (.aload_n 0, 1) := by decide +kernel
theorem dL_law_573 : decode cL_law 573 = .ok (.iload_n 3, 1) := by decide +kernel
theorem dL_law_574 : decode cL_law 574 = .ok (.iconst 1, 1) := by decide +kernel
theorem dL_law_575 : decode cL_law 575 = .ok (.iadd, 1) := by decide +kernel
theorem dL_law_576 : decode cL_law 576 = .ok (.iaload, 1) := by decide +kernel
theorem dL_law_577 : decode cL_law 577 = .ok (.invokevirtual 73, 3) := by decide +kernel
theorem dL_law_580 : decode cL_law 580 = .ok (.aload_n 2, 1) := by decide +kernel
theorem dL_law_581 : decode cL_law 581 = .ok (.aload_n 0, 1) := by decide +kernel
theorem dL_law_582 : decode cL_law 582 = .ok (.iload_n 3, 1) := by decide +kernel
theorem dL_law_583 : decode cL_law 583 = .ok (.iconst 1, 1) := by decide +kernel
theorem dL_law_584 : decode cL_law 584 = .ok (.iadd, 1) := by decide +kernel
theorem dL_law_585 : decode cL_law 585 = .ok (.iaload, 1) := by decide +kernel
theorem dL_law_586 : decode cL_law 586 = .ok (.invokevirtual 76, 3) := by decide +kernel
theorem dL_law_589 : decode cL_law 589 = .ok (.if_icmp .eq 385, 3) := by decide +kernel
theorem dL_law_592 : decode cL_law 592 = .ok (.iconst 0, 1) := by decide +kernel
theorem dL_law_593 : decode cL_law 593 = .ok (.ireturn, 1) := by decide +kernel
theorem dL_law_594 : decode cL_law 594 = .ok (.aload_n 1, 1) := by decide +kernel
theorem dL_law_595 : decode cL_law 595 = .ok (.aload_n 0, 1) := by decide +kernel
theorem dL_law_596 : decode cL_law 596 = .ok (.iload_n 3, 1) := by decide +kernel
theorem dL_law_597 : decode cL_law 597 = .ok (.iconst 1, 1) := by decide +kernel
theorem dL_law_598 : decode cL_law 598 = .ok (.iadd, 1) := by decide +kernel
theorem dL_law_599 : decode cL_law 599 = .ok (.iaload, 1) := by decide +kernel
theorem dL_law_600 : decode cL_law 600 = .ok (.invokevirtual 77, 3) := by decide +kernel
theorem dL_law_603 : decode cL_law 603 = .ok (.aload_n 2, 1) := by decide +kernel
theorem dL_law_604 : decode cL_law 604 = .ok (.aload_n 0, 1) := by decide +kernel
theorem dL_law_605 : decode cL_law 605 = .ok (.iload_n 3, 1) := by decide +kernel
theorem dL_law_606 : decode cL_law 606 = .ok (.iconst 1, 1) := by decide +kernel
theorem dL_law_607 : decode cL_law 607 = .ok (.iadd, 1) := by decide +kernel
theorem dL_law_608 : decode cL_law 608 = .ok (.iaload, 1) := by decide +kernel
theorem dL_law_609 : decode cL_law 609 = .ok (.invokevirtual 80, 3) := by decide +kernel
theorem dL_law_612 : decode cL_law 612 = .ok (.if_icmp .eq 362, 3) := by decide +kernel
theorem dL_law_615 : decode cL_law 615 = .ok (.iconst 0, 1) := by decide +kernel
theorem dL_law_616 : decode cL_law 616 = .ok (.ireturn, 1) := by decide +kernel
theorem dL_law_617 : decode cL_law 617 = .ok (.aload_n 1, 1) := by decide +kernel
theorem dL_law_618 : decode cL_law 618 = .ok (.aload_n 0, 1) := by decide +kernel
theorem dL_law_619 : decode cL_law 619 = .ok (.iload_n 3, 1) := by decide +kernel
theorem dL_law_620 : decode cL_law 620 = .ok (.iconst 1, 1) := by decide +kernel
theorem dL_law_621 : decode cL_law 621 = .ok (.iadd, 1) := by decide +kernel
theorem dL_law_622 : decode cL_law 622 = .ok (.iaload, 1) := by decide +kernel
theorem dL_law_623 : decode cL_law 623 = .ok (.invokevirtual 81, 3) := by decide +kernel
theorem dL_law_626 : decode cL_law 626 = .ok (.aload_n 2, 1) := by decide +kernel
theorem dL_law_627 : decode cL_law 627 = .ok (.aload_n 0, 1) := by decide +kernel
theorem dL_law_628 : decode cL_law 628 = .ok (.iload_n 3, 1) := by decide +kernel
theorem dL_law_629 : decode cL_law 629 = .ok (.iconst 1, 1) := by decide +kernel
theorem dL_law_630 : decode cL_law 630 = .ok (.iadd, 1) := by decide +kernel
theorem dL_law_631 : decode cL_law 631 = .ok (.iaload, 1) := by decide +kernel
theorem dL_law_632 : decode cL_law 632 = .ok (.invokevirtual 84, 3) := by decide +kernel
theorem dL_law_635 : decode cL_law 635 = .ok (.if_icmp .eq 339, 3) := by decide +kernel
theorem dL_law_638 : decode cL_law 638 = .ok (.iconst 0, 1) := by decide +kernel
theorem dL_law_639 : decode cL_law 639 = .ok (.ireturn, 1) := by decide +kernel
theorem dL_law_640 : decode cL_law 640 = .ok (.aload_n 1, 1) := by decide +kernel
theorem dL_law_641 : decode cL_law 641 = .ok (.aload_n 0, 1) := by decide +kernel
theorem dL_law_642 : decode cL_law 642 = .ok (.iload_n 3, 1) := by decide +kernel
theorem dL_law_643 : decode cL_law 643 = .ok (.iconst 1, 1) := by decide +kernel
theorem dL_law_644 : decode cL_law 644 = .ok (.iadd, 1) := by decide +kernel
theorem dL_law_645 : decode cL_law 645 = .ok (.iaload, 1) := by decide +kernel
theorem dL_law_646 : decode cL_law 646 = .ok (.invokevirtual 85, 3) := by decide +kernel
theorem dL_law_649 : decode cL_law 649 = .ok (.aload_n 2, 1) := by decide +kernel
theorem dL_law_650 : decode cL_law 650 = .ok (.aload_n 0, 1) := by decide +kernel
theorem dL_law_651 : decode cL_law 651 = .ok (.iload_n 3, 1) := by decide +kernel
theorem dL_law_652 : decode cL_law 652 = .ok (.iconst 1, 1) := by decide +kernel
theorem dL_law_653 : decode cL_law 653 = .ok (.iadd, 1) := by decide +kernel
theorem dL_law_654 : decode cL_law 654 = .ok (.iaload, 1) := by decide +kernel
theorem dL_law_655 : decode cL_law 655 = .ok (.invokevirtual 88, 3) := by decide +kernel
theorem dL_law_658 : decode cL_law 658 = .ok (.if_icmp .eq 316, 3) := by decide +kernel
theorem dL_law_661 : decode cL_law 661 = .ok (.iconst 0, 1) := by decide +kernel
theorem dL_law_662 : decode cL_law 662 = .ok (.ireturn, 1) := by decide +kernel
theorem dL_law_663 : decode cL_law 663 = .ok (.aload_n 1, 1) := by decide +kernel
theorem dL_law_664 : decode cL_law 664 = .ok (.aload_n 0, 1) := by decide +kernel
theorem dL_law_665 : decode cL_law 665 = .ok (.iload_n 3, 1) := by decide +kernel
theorem dL_law_666 : decode cL_law 666 = .ok (.iconst 1, 1) := by decide +kernel
theorem dL_law_667 : decode cL_law 667 = .ok (.iadd, 1) := by decide +kernel
theorem dL_law_668 : decode cL_law 668 = .ok (.iaload, 1) := by decide +kernel
theorem dL_law_669 : decode cL_law 669 = .ok (.aload_n 0, 1) := by decide +kernel
theorem dL_law_670 : decode cL_law 670 = .ok (.iload_n 3, 1) := by decide +kernel
theorem dL_law_671 : decode cL_law 671 = .ok (.iconst 2, 1) := by decide +kernel
theorem dL_law_672 : decode cL_law 672 = .ok (.iadd, 1) := by decide +kernel
theorem dL_law_673 : decode cL_law 673 = .ok (.iaload, 1) := by decide +kernel
theorem dL_law_674 : decode cL_law 674 = .ok (.invokevirtual 89, 3) := by decide +kernel
theorem dL_law_677 : decode cL_law 677 = .ok (.aload_n 2, 1) := by decide +kernel
theorem dL_law_678 : decode cL_law 678 = .ok (.aload_n 0, 1) := by decide +kernel
theorem dL_law_679 : decode cL_law 679 = .ok (.iload_n 3, 1) := by decide +kernel
theorem dL_law_680 : decode cL_law 680 = .ok (.iconst 1, 1) := by decide +kernel
theorem dL_law_681 : decode cL_law 681 = .ok (.iadd, 1) := by decide +kernel
theorem dL_law_682 : decode cL_law 682 = .ok (.iaload, 1) := by decide +kernel
theorem dL_law_683 : decode cL_law 683 = .ok (.aload_n 0, 1) := by decide +kernel
theorem dL_law_684 : decode cL_law 684 = .ok (.iload_n 3, 1) := by decide +kernel
theorem dL_law_685 : decode cL_law 685 = .ok (.iconst 2, 1) := by decide +kernel
theorem dL_law_686 : decode cL_law 686 = .ok (.iadd, 1) := by decide +kernel
theorem dL_law_687 : decode cL_law 687 = .ok (.iaload, 1) := by decide +kernel
theorem dL_law_688 : decode cL_law 688 = .ok (.invokevirtual 92, 3) := by decide +kernel
theorem dL_law_691 : decode cL_law 691 = .ok (.if_icmp .eq 283, 3) := by decide +kernel
theorem dL_law_694 : decode cL_law 694 = .ok (.iconst 0, 1) := by decide +kernel
theorem dL_law_695 : decode cL_law 695 = .ok (.ireturn, 1) := by decide +kernel
theorem dL_law_696 : decode cL_law 696 = .ok (.aload_n 1, 1) := by decide +kernel
theorem dL_law_697 : decode cL_law 697 = .ok (.aload_n 0, 1) := by decide +kernel
theorem dL_law_698 : decode cL_law 698 = .ok (.iload_n 3, 1) := by decide +kernel
theorem dL_law_699 : decode cL_law 699 = .ok (.iconst 1, 1) := by decide +kernel
theorem dL_law_700 : decode cL_law 700 = .ok (.iadd, 1) := by decide +kernel
theorem dL_law_701 : decode cL_law 701 = .ok (.iaload, 1) := by decide +kernel
theorem dL_law_702 : decode cL_law 702 = .ok (.aload_n 0, 1) := by decide +kernel
theorem dL_law_703 : decode cL_law 703 = .ok (.iload_n 3, 1) := by decide +kernel
theorem dL_law_704 : decode cL_law 704 = .ok (.iconst 2, 1) := by decide +kernel
theorem dL_law_705 : decode cL_law 705 = .ok (.iadd, 1) := by decide +kernel
theorem dL_law_706 : decode cL_law 706 = .ok (.iaload, 1) := by decide +kernel
theorem dL_law_707 : decode cL_law 707 = .ok (.invokevirtual 93, 3) := by decide +kernel
theorem dL_law_710 : decode cL_law 710 = .ok (.aload_n 2, 1) := by decide +kernel
theorem dL_law_711 : decode cL_law 711 = .ok (.aload_n 0, 1) := by decide +kernel
theorem dL_law_712 : decode cL_law 712 = .ok (.iload_n 3, 1) := by decide +kernel
theorem dL_law_713 : decode cL_law 713 = .ok (.iconst 1, 1) := by decide +kernel
theorem dL_law_714 : decode cL_law 714 = .ok (.iadd, 1) := by decide +kernel
theorem dL_law_715 : decode cL_law 715 = .ok (.iaload, 1) := by decide +kernel
theorem dL_law_716 : decode cL_law 716 = .ok (.aload_n 0, 1) := by decide +kernel
theorem dL_law_717 : decode cL_law 717 = .ok (.iload_n 3, 1) := by decide +kernel
theorem dL_law_718 : decode cL_law 718 = .ok (.iconst 2, 1) := by decide +kernel
theorem dL_law_719 : decode cL_law 719 = .ok (.iadd, 1) := by decide +kernel
theorem dL_law_720 : decode cL_law 720 = .ok (.iaload, 1) := by decide +kernel
theorem dL_law_721 : decode cL_law 721 = .ok (.invokevirtual 96, 3) := by decide +kernel
theorem dL_law_724 : decode cL_law 724 = .ok (.if_icmp .eq 250, 3) := by decide +kernel
theorem dL_law_727 : decode cL_law 727 = .ok (.iconst 0, 1) := by decide +kernel
theorem dL_law_728 : decode cL_law 728 = .ok (.ireturn, 1) := by decide +kernel
theorem dL_law_729 : decode cL_law 729 = .ok (.aload_n 1, 1) := by decide +kernel
theorem dL_law_730 : decode cL_law 730 = .ok (.aload_n 0, 1) := by decide +kernel
theorem dL_law_731 : decode cL_law 731 = .ok (.iload_n 3, 1) := by decide +kernel
theorem dL_law_732 : decode cL_law 732 = .ok (.iconst 1, 1) := by decide +kernel
theorem dL_law_733 : decode cL_law 733 = .ok (.iadd, 1) := by decide +kernel
theorem dL_law_734 : decode cL_law 734 = .ok (.iaload, 1) := by decide +kernel
theorem dL_law_735 : decode cL_law 735 = .ok (.aload_n 0, 1) := by decide +kernel
theorem dL_law_736 : decode cL_law 736 = .ok (.iload_n 3, 1) := by decide +kernel
theorem dL_law_737 : decode cL_law 737 = .ok (.iconst 2, 1) := by decide +kernel
theorem dL_law_738 : decode cL_law 738 = .ok (.iadd, 1) := by decide +kernel
theorem dL_law_739 : decode cL_law 739 = .ok (.iaload, 1) := by decide +kernel
theorem dL_law_740 : decode cL_law 740 = .ok (.aload_n 0, 1) := by decide +kernel
theorem dL_law_741 : decode cL_law 741 = .ok (.iload_n 3, 1) := by decide +kernel
theorem dL_law_742 : decode cL_law 742 = .ok (.iconst 3, 1) := by decide +kernel
theorem dL_law_743 : decode cL_law 743 = .ok (.iadd, 1) := by decide +kernel
theorem dL_law_744 : decode cL_law 744 = .ok (.iaload, 1) := by decide +kernel
theorem dL_law_745 : decode cL_law 745 = .ok (.invokevirtual 97, 3) := by decide +kernel
theorem dL_law_748 : decode cL_law 748 = .ok (.aload_n 2, 1) := by decide +kernel
theorem dL_law_749 : decode cL_law 749 = .ok (.aload_n 0, 1) := by decide +kernel
theorem dL_law_750 : decode cL_law 750 = .ok (.iload_n 3, 1) := by decide +kernel
theorem dL_law_751 : decode cL_law 751 = .ok (.iconst 1, 1) := by decide +kernel
theorem dL_law_752 : decode cL_law 752 = .ok (.iadd, 1) := by decide +kernel
theorem dL_law_753 : decode cL_law 753 = .ok (.iaload, 1) := by decide +kernel
theorem dL_law_754 : decode cL_law 754 = .ok (.aload_n 0, 1) := by decide +kernel
theorem dL_law_755 : decode cL_law 755 = .ok (.iload_n 3, 1) := by decide +kernel
theorem dL_law_756 : decode cL_law 756 = .ok (.iconst 2, 1) := by decide +kernel
theorem dL_law_757 : decode cL_law 757 = .ok (.iadd, 1) := by decide +kernel
theorem dL_law_758 : decode cL_law 758 = .ok (.iaload, 1) := by decide +kernel
theorem dL_law_759 : decode cL_law 759 = .ok (.aload_n 0, 1) := by decide +kernel
theorem dL_law_760 : decode cL_law 760 = .ok (.iload_n 3, 1) := by decide +kernel
theorem dL_law_761 : decode cL_law 761 = .ok (.iconst 3, 1) := by decide +kernel
theorem dL_law_762 : decode cL_law 762 = .ok (.iadd, 1) := by decide +kernel
theorem dL_law_763 : decode cL_law 763 = .ok (.iaload, 1) := by decide +kernel
theorem dL_law_764 : decode cL_law 764 = .ok (.invokevirtual 100, 3) := by decide +kernel
theorem dL_law_767 : decode cL_law 767 = .ok (.if_icmp .eq 207, 3) := by decide +kernel
theorem dL_law_770 : decode cL_law 770 = .ok (.iconst 0, 1) := by decide +kernel
theorem dL_law_771 : decode cL_law 771 = .ok (.ireturn, 1) := by decide +kernel
theorem dL_law_772 : decode cL_law 772 = .ok (.aload_n 1, 1) := by decide +kernel
theorem dL_law_773 : decode cL_law 773 = .ok (.aload_n 0, 1) := by decide +kernel
theorem dL_law_774 : decode cL_law 774 = .ok (.iload_n 3, 1) := by decide +kernel
theorem dL_law_775 : decode cL_law 775 = .ok (.iconst 1, 1) := by decide +kernel
theorem dL_law_776 : decode cL_law 776 = .ok (.iadd, 1) := by decide +kernel
theorem dL_law_777 : decode cL_law 777 = .ok (.iaload, 1) := by decide +kernel
theorem dL_law_778 : decode cL_law 778 = .ok (.aload_n 0, 1) := by decide +kernel
theorem dL_law_779 : decode cL_law 779 = .ok (.iload_n 3, 1) := by decide +kernel
theorem dL_law_780 : decode cL_law 780 = .ok (.iconst 2, 1) := by decide +kernel
theorem dL_law_781 : decode cL_law 781 = .ok (.iadd, 1) := by decide +kernel
theorem dL_law_782 : decode cL_law 782 = .ok (.iaload, 1) := by decide +kernel
theorem dL_law_783 : decode cL_law 783 = .ok (.aload_n 0, 1) := by decide +kernel
theorem dL_law_784 : decode cL_law 784 = .ok (.iload_n 3, 1) := by decide +kernel
theorem dL_law_785 : decode cL_law 785 = .ok (.iconst 3, 1) := by decide +kernel
theorem dL_law_786 : decode cL_law 786 = .ok (.iadd, 1) := by decide +kernel
theorem dL_law_787 : decode cL_law 787 = .ok (.iaload, 1) := by decide +kernel
theorem dL_law_788 : decode cL_law 788 = .ok (.invokevirtual 101, 3) := by decide +kernel
theorem dL_law_791 : decode cL_law 791 = .ok (.aload_n 2, 1) := by decide +kernel
theorem dL_law_792 : decode cL_law 792 = .ok (.aload_n 0, 1) := by decide +kernel
theorem dL_law_793 : decode cL_law 793 = .ok (.iload_n 3, 1) := by decide +kernel
theorem dL_law_794 : decode cL_law 794 = .ok (.iconst 1, 1) := by decide +kernel
theorem dL_law_795 : decode cL_law 795 = .ok (.iadd, 1) := by decide +kernel
theorem dL_law_796 : decode cL_law 796 = .ok (.iaload, 1) := by decide +kernel
theorem dL_law_797 : decode cL_law 797 = .ok (.aload_n 0, 1) := by decide +kernel
theorem dL_law_798 : decode cL_law 798 = .ok (.iload_n 3, 1) := by decide +kernel
theorem dL_law_799 : decode cL_law 799 = .ok (.iconst 2, 1) := by decide +kernel
theorem dL_law_800 : decode cL_law 800 = .ok (.iadd, 1) := by decide +kernel
theorem dL_law_801 : decode cL_law 801 = .ok (.iaload, 1) := by decide +kernel
theorem dL_law_802 : decode cL_law 802 = .ok (.aload_n 0, 1) := by decide +kernel
theorem dL_law_803 : decode cL_law 803 = .ok (.iload_n 3, 1) := by decide +kernel
theorem dL_law_804 : decode cL_law 804 = .ok (.iconst 3, 1) := by decide +kernel
theorem dL_law_805 : decode cL_law 805 = .ok (.iadd, 1) := by decide +kernel
theorem dL_law_806 : decode cL_law 806 = .ok (.iaload, 1) := by decide +kernel
theorem dL_law_807 : decode cL_law 807 = .ok (.invokevirtual 104, 3) := by decide +kernel
theorem dL_law_810 : decode cL_law 810 = .ok (.if_icmp .eq 164, 3) := by decide +kernel
theorem dL_law_813 : decode cL_law 813 = .ok (.iconst 0, 1) := by decide +kernel
theorem dL_law_814 : decode cL_law 814 = .ok (.ireturn, 1) := by decide +kernel
theorem dL_law_815 : decode cL_law 815 = .ok (.aload_n 1, 1) := by decide +kernel
theorem dL_law_816 : decode cL_law 816 = .ok (.aload_n 0, 1) := by decide +kernel
theorem dL_law_817 : decode cL_law 817 = .ok (.iload_n 3, 1) := by decide +kernel
theorem dL_law_818 : decode cL_law 818 = .ok (.iconst 1, 1) := by decide +kernel
theorem dL_law_819 : decode cL_law 819 = .ok (.iadd, 1) := by decide +kernel
theorem dL_law_820 : decode cL_law 820 = .ok (.iaload, 1) := by decide +kernel
theorem dL_law_821 : decode cL_law 821 = .ok (.aload_n 0, 1) := by decide +kernel
theorem dL_law_822 : decode cL_law 822 = .ok (.iload_n 3, 1) := by decide +kernel
theorem dL_law_823 : decode cL_law 823 = .ok (.iconst 2, 1) := by decide +kernel
theorem dL_law_824 : decode cL_law 824 = .ok (.iadd, 1) := by decide +kernel
theorem dL_law_825 : decode cL_law 825 = .ok (.iaload, 1) := by decide +kernel
theorem dL_law_826 : decode cL_law 826 = .ok (.aload_n 0, 1) := by decide +kernel
theorem dL_law_827 : decode cL_law 827 = .ok (.iload_n 3, 1) := by decide +kernel
theorem dL_law_828 : decode cL_law 828 = .ok (.iconst 3, 1) := by decide +kernel
theorem dL_law_829 : decode cL_law 829 = .ok (.iadd, 1) := by decide +kernel
theorem dL_law_830 : decode cL_law 830 = .ok (.iaload, 1) := by decide +kernel
theorem dL_law_831 : decode cL_law 831 = .ok (.aload_n 0, 1) := by decide +kernel
theorem dL_law_832 : decode cL_law 832 = .ok (.iload_n 3, 1) := by decide +kernel
theorem dL_law_833 : decode cL_law 833 = .ok (.iconst 4, 1) := by decide +kernel
theorem dL_law_834 : decode cL_law 834 = .ok (.iadd, 1) := by decide +kernel
theorem dL_law_835 : decode cL_law 835 = .ok (.iaload, 1) := by decide +kernel
theorem dL_law_836 : decode cL_law 836 = .ok (.invokevirtual 105, 3) := by decide +kernel
theorem dL_law_839 : decode cL_law 839 = .ok (.aload_n 2, 1) := by decide +kernel
theorem dL_law_840 : decode cL_law 840 = .ok (.aload_n 0, 1) := by decide +kernel
theorem dL_law_841 : decode cL_law 841 = .ok (.iload_n 3, 1) := by decide +kernel
theorem dL_law_842 : decode cL_law 842 = .ok (.iconst 1, 1) := by decide +kernel
theorem dL_law_843 : decode cL_law 843 = .ok (.iadd, 1) := by decide +kernel
theorem dL_law_844 : decode cL_law 844 = .ok (.iaload, 1) := by decide +kernel
theorem dL_law_845 : decode cL_law 845 = .ok (.aload_n 0, 1) := by decide +kernel
theorem dL_law_846 : decode cL_law 846 = .ok (.iload_n 3, 1) := by decide +kernel
theorem dL_law_847 : decode cL_law 847 = .ok (.iconst 2, 1) := by decide +kernel
theorem dL_law_848 : decode cL_law 848 = .ok (.iadd, 1) := by decide +kernel
theorem dL_law_849 : decode cL_law 849 = .ok (.iaload, 1) := by decide +kernel
theorem dL_law_850 : decode cL_law 850 = .ok (.aload_n 0, 1) := by decide +kernel
theorem dL_law_851 : decode cL_law 851 = .ok (.iload_n 3, 1) := by decide +kernel
theorem dL_law_852 : decode cL_law 852 = .ok (.iconst 3, 1) := by decide +kernel
theorem dL_law_853 : decode cL_law 853 = .ok (.iadd, 1) := by decide +kernel
theorem dL_law_854 : decode cL_law 854 = .ok (.iaload, 1) := by decide +kernel
theorem dL_law_855 : decode cL_law 855 = .ok (.aload_n 0, 1) := by decide +kernel
theorem dL_law_856 : decode cL_law 856 = .ok (.iload_n 3, 1) := by decide +kernel
theorem dL_law_857 : decode cL_law 857 = .ok (.iconst 4, 1) := by decide +kernel
theorem dL_law_858 : decode cL_law 858 = .ok (.iadd, 1) := by decide +kernel
theorem dL_law_859 : decode cL_law 859 = .ok (.iaload, 1) := by decide +kernel
theorem dL_law_860 : decode cL_law 860 = .ok (.invokevirtual 109, 3) := by decide +kernel
theorem dL_law_863 : decode cL_law 863 = .ok (.if_icmp .eq 111, 3) := by decide +kernel
theorem dL_law_866 : decode cL_law 866 = .ok (.iconst 0, 1) := by decide +kernel
theorem dL_law_867 : decode cL_law 867 = .ok (.ireturn, 1) := by decide +kernel
theorem dL_law_868 : decode cL_law 868 = .ok (.aload_n 1, 1) := by decide +kernel
theorem dL_law_869 : decode cL_law 869 = .ok (.aload_n 0, 1) := by decide +kernel
theorem dL_law_870 : decode cL_law 870 = .ok (.iload_n 3, 1) := by decide +kernel
theorem dL_law_871 : decode cL_law 871 = .ok (.iconst 1, 1) := by decide +kernel
theorem dL_law_872 : decode cL_law 872 = .ok (.iadd, 1) := by decide +kernel
theorem dL_law_873 : decode cL_law 873 = .ok (.iaload, 1) := by decide +kernel
theorem dL_law_874 : decode cL_law 874 = .ok (.invokevirtual 110, 3) := by decide +kernel
theorem dL_law_877 : decode cL_law 877 = .ok (.aload_n 2, 1) := by decide +kernel
theorem dL_law_878 : decode cL_law 878 = .ok (.aload_n 0, 1) := by decide +kernel
theorem dL_law_879 : decode cL_law 879 = .ok (.iload_n 3, 1) := by decide +kernel
theorem dL_law_880 : decode cL_law 880 = .ok (.iconst 1, 1) := by decide +kernel
theorem dL_law_881 : decode cL_law 881 = .ok (.iadd, 1) := by decide +kernel
theorem dL_law_882 : decode cL_law 882 = .ok (.iaload, 1) := by decide +kernel
theorem dL_law_883 : decode cL_law 883 = .ok (.invokevirtual 113, 3) := by decide +kernel
theorem dL_law_886 : decode cL_law 886 = .ok (.if_icmp .eq 88, 3) := by decide +kernel
theorem dL_law_889 : decode cL_law 889 = .ok (.iconst 0, 1) := by decide +kernel
theorem dL_law_890 : decode cL_law 890 = .ok (.ireturn, 1) := by decide +kernel
theorem dL_law_891 : decode cL_law 891 = .ok (.aload_n 1, 1) := by decide +kernel
theorem dL_law_892 : decode cL_law 892 = .ok (.aload_n 0, 1) := by decide +kernel
theorem dL_law_893 : decode cL_law 893 = .ok (.iload_n 3, 1) := by decide +kernel
theorem dL_law_894 : decode cL_law 894 = .ok (.iconst 1, 1) := by decide +kernel
theorem dL_law_895 : decode cL_law 895 = .ok (.iadd, 1) := by decide +kernel
theorem dL_law_896 : decode cL_law 896 = .ok (.iaload, 1) := by decide +kernel
theorem dL_law_897 : decode cL_law 897 = .ok (.invokevirtual 114, 3) := by decide +kernel
theorem dL_law_900 : decode cL_law 900 = .ok (.aload_n 2, 1) := by decide +kernel
theorem dL_law_901 : decode cL_law 901 = .ok (.aload_n 0, 1) := by decide +kernel
theorem dL_law_902 : decode cL_law 902 = .ok (.iload_n 3, 1) := by decide +kernel
theorem dL_law_903 : decode cL_law 903 = .ok (.iconst 1, 1) := by decide +kernel
theorem dL_law_904 : decode cL_law 904 = .ok (.iadd, 1) := by decide +kernel
theorem dL_law_905 : decode cL_law 905 = .ok (.iaload, 1) := by decide +kernel
theorem dL_law_906 : decode cL_law 906 = .ok (.invokevirtual 117, 3) := by decide +kernel
theorem dL_law_909 : decode cL_law 909 = .ok (.if_icmp .eq 65, 3) := by decide +kernel
theorem dL_law_912 : decode cL_law 912 = .ok (.iconst 0, 1) := by decide +kernel
theorem dL_law_913 : decode cL_law 913 = .ok (.ireturn, 1) := by decide +kernel
theorem dL_law_914 : decode cL_law 914 = .ok (.aload_n 1, 1) := by decide +kernel
theorem dL_law_915 : decode cL_law 915 = .ok (.aload_n 0, 1) := by decide +kernel
theorem dL_law_916 : decode cL_law 916 = .ok (.iload_n 3, 1) := by decide +kernel
theorem dL_law_917 : decode cL_law 917 = .ok (.iconst 1, 1) := by decide +kernel
theorem dL_law_918 : decode cL_law 918 = .ok (.iadd, 1) := by decide +kernel
theorem dL_law_919 : decode cL_law 919 = .ok (.iaload, 1) := by decide +kernel
theorem dL_law_920 : decode cL_law 920 = .ok (.invokevirtual 118, 3) := by decide +kernel
theorem dL_law_923 : decode cL_law 923 = .ok (.aload_n 2, 1) := by decide +kernel
theorem dL_law_924 : decode cL_law 924 = .ok (.aload_n 0, 1) := by decide +kernel
theorem dL_law_925 : decode cL_law 925 = .ok (.iload_n 3, 1) := by decide +kernel
theorem dL_law_926 : decode cL_law 926 = .ok (.iconst 1, 1) := by decide +kernel
theorem dL_law_927 : decode cL_law 927 = .ok (.iadd, 1) := by decide +kernel
theorem dL_law_928 : decode cL_law 928 = .ok (.iaload, 1) := by decide +kernel
theorem dL_law_929 : decode cL_law 929 = .ok (.invokevirtual 121, 3) := by decide +kernel
theorem dL_law_932 : decode cL_law 932 = .ok (.if_icmp .eq 42, 3) := by decide +kernel
theorem dL_law_935 : decode cL_law 935 = .ok (.iconst 0, 1) := by decide +kernel
theorem dL_law_936 : decode cL_law 936 = .ok (.ireturn, 1) := by decide +kernel
theorem dL_law_937 : decode cL_law 937 = .ok (.aload_n 1, 1) := by decide +kernel
theorem dL_law_938 : decode cL_law 938 = .ok (.aload_n 0, 1) := by decide +kernel
theorem dL_law_939 : decode cL_law 939 = .ok (.iload_n 3, 1) := by decide +kernel
theorem dL_law_940 : decode cL_law 940 = .ok (.iconst 1, 1) := by decide +kernel
theorem dL_law_941 : decode cL_law 941 = .ok (.iadd, 1) := by decide +kernel
theorem dL_law_942 : decode cL_law 942 = .ok (.iaload, 1) := by decide +kernel
theorem dL_law_943 : decode cL_law 943 = .ok (.invokevirtual 122, 3) := by decide +kernel
theorem dL_law_946 : decode cL_law 946 = .ok (.aload_n 2, 1) := by decide +kernel
theorem dL_law_947 : decode cL_law 947 = .ok (.aload_n 0, 1) := by decide +kernel
theorem dL_law_948 : decode cL_law 948 = .ok (.iload_n 3, 1) := by decide +kernel
theorem dL_law_949 : decode cL_law 949 = .ok (.iconst 1, 1) := by decide +kernel
theorem dL_law_950 : decode cL_law 950 = .ok (.iadd, 1) := by decide +kernel
theorem dL_law_951 : decode cL_law 951 = .ok (.iaload, 1) := by decide +kernel
theorem dL_law_952 : decode cL_law 952 = .ok (.invokevirtual 125, 3) := by decide +kernel
theorem dL_law_955 : decode cL_law 955 = .ok (.if_icmp .eq 19, 3) := by decide +kernel
theorem dL_law_958 : decode cL_law 958 = .ok (.iconst 0, 1) := by decide +kernel
theorem dL_law_959 : decode cL_law 959 = .ok (.ireturn, 1) := by decide +kernel
theorem dL_law_960 : decode cL_law 960 = .ok (.aload_n 1, 1) := by decide +kernel
theorem dL_law_961 : decode cL_law 961 = .ok (.invokevirtual 126, 3) := by decide +kernel
theorem dL_law_964 : decode cL_law 964 = .ok (.aload_n 2, 1) := by decide +kernel
theorem dL_law_965 : decode cL_law 965 = .ok (.invokevirtual 130, 3) := by decide +kernel
theorem dL_law_968 : decode cL_law 968 = .ok (.lcmp, 1) := by decide +kernel
theorem dL_law_969 : decode cL_law 969 = .ok (.ifCond .eq 5, 3) := by decide +kernel
theorem dL_law_972 : decode cL_law 972 = .ok (.iconst 0, 1) := by decide +kernel
theorem dL_law_973 : decode cL_law 973 = .ok (.ireturn, 1) := by decide +kernel
theorem dL_law_974 : decode cL_law 974 = .ok (.iinc 3 5, 3) := by decide +kernel
theorem dL_law_977 : decode cL_law 977 = .ok (.goto (-959), 3) := by decide +kernel
theorem dL_law_980 : decode cL_law 980 = .ok (.iconst 1, 1) := by decide +kernel
theorem dL_law_981 : decode cL_law 981 = .ok (.ireturn, 1) := by decide +kernel
end
section
abbrev MI : Type := Nat × Nat × Nat × ByteArray × MethodName × Option FieldType
def qX0_loadBy : MI := (0, 2, 8, cX0_loadBy, yX0_loadBy, some .int)
def qX1_loadBy : MI := (1, 2, 8, cX1_loadBy, yX1_loadBy, some .int)
def qX2_empty : MI := (2, 1, 9, cX2_empty, yX2_empty, none)
def qX2_take : MI := (2, 2, 9, cX2_take, yX2_take, none)
def qX2_addBridge : MI := (2, 5, 9, cX2_addBridge, yX2_addBridge, some .int)
def qX2_addChain : MI := (2, 4, 9, cX2_addChain, yX2_addChain, some .int)
def qX2_setBallast : MI := (2, 4, 9, cX2_setBallast, yX2_setBallast, some .int)
def qX2_addPerson : MI := (2, 3, 9, cX2_addPerson, yX2_addPerson, some .int)
def qX2_isBridge : MI := (2, 2, 8, cX2_isBridge, yX2_isBridge, some .boolean)
def qX2_isPerson : MI := (2, 2, 8, cX2_isPerson, yX2_isPerson, some .boolean)
def qX2_isPlace : MI := (2, 2, 8, cX2_isPlace, yX2_isPlace, some .boolean)
def qX2_areBridges : MI := (2, 2, 9, cX2_areBridges, yX2_areBridges, some .boolean)
def qX2_areSome : MI := (2, 2, 8, cX2_areSome, yX2_areSome, some .boolean)
def qX2_allBridges : MI := (2, 1, 8, cX2_allBridges, yX2_allBridges, some .int)
def qX2_bridgesOf : MI := (2, 4, 9, cX2_bridgesOf, yX2_bridgesOf, some .int)
def qX2_joins : MI := (2, 3, 8, cX2_joins, yX2_joins, some .boolean)
def qX2_isDown : MI := (2, 2, 8, cX2_isDown, yX2_isDown, some .boolean)
def qX2_isTied : MI := (2, 3, 8, cX2_isTied, yX2_isTied, some .boolean)
def qX2_loadOn : MI := (2, 4, 10, cX2_loadOn, yX2_loadOn, some .int)
def qX2_areIn : MI := (2, 4, 8, cX2_areIn, yX2_areIn, some .boolean)
def qX2_canGo : MI := (2, 6, 9, cX2_canGo, yX2_canGo, some .boolean)
def qX2_go : MI := (2, 7, 11, cX2_go, yX2_go, none)
def qX2_tip : MI := (2, 5, 9, cX2_tip, yX2_tip, none)
def qX2_dropChain : MI := (2, 3, 8, cX2_dropChain, yX2_dropChain, none)
def qX2_addStones : MI := (2, 4, 8, cX2_addStones, yX2_addStones, none)
def qX2_leaveOut : MI := (2, 3, 8, cX2_leaveOut, yX2_leaveOut, none)
def qX2_leaveAlone : MI := (2, 2, 8, cX2_leaveAlone, yX2_leaveAlone, none)
def qX2_packed : MI := (2, 3, 8, cX2_packed, yX2_packed, some .int)
def qX2_unpack : MI := (2, 4, 8, cX2_unpack, yX2_unpack, none)
def qX2_digestOn : MI := (2, 6, 8, cX2_digestOn, yX2_digestOn, some .long)
def qX3_loadBy : MI := (3, 3, 9, cX3_loadBy, yX3_loadBy, some .int)
def qX4_mayFall : MI := (4, 1, 8, cX4_mayFall, yX4_mayFall, some .boolean)
def qX5_mayRise : MI := (5, 1, 8, cX5_mayRise, yX5_mayRise, some .boolean)
def qX6_push : MI := (6, 2, 8, cX6_push, yX6_push, none)
def qX6_pop : MI := (6, 1, 8, cX6_pop, yX6_pop, some .int)
def qX6_forget : MI := (6, 1, 8, cX6_forget, yX6_forget, none)
def qX6_take : MI := (6, 2, 8, cX6_take, yX6_take, none)
def qX7_loadBy : MI := (7, 2, 8, cX7_loadBy, yX7_loadBy, some .int)
def qX7_mayRise : MI := (7, 1, 8, cX7_mayRise, yX7_mayRise, some .boolean)
def qX7_mayFall : MI := (7, 1, 8, cX7_mayFall, yX7_mayFall, some .boolean)
def qX8_readInto : MI := (8, 5, 13, cX8_readInto, yX8_readInto, some .int)
def qX8_readItem : MI := (8, 3, 12, cX8_readItem, yX8_readItem, some .boolean)
def qX8_tell : MI := (8, 2, 10, cX8_tell, yX8_tell, some .int)
def qX9_shorter : MI := (9, 10, 13, cX9_shorter, yX9_shorter, some .int)
def qX9_begin : MI := (9, 2, 9, cX9_begin, yX9_begin, none)
def qX9_goOn : MI := (9, 8, 12, cX9_goOn, yX9_goOn, none)
def qX9_note : MI := (9, 6, 8, cX9_note, yX9_note, none)
def qX9_stateAt : MI := (9, 2, 8, cX9_stateAt, yX9_stateAt, some .int)
def qX9_before : MI := (9, 2, 8, cX9_before, yX9_before, some .int)
def qX9_stepOfWay : MI := (9, 5, 9, cX9_stepOfWay, yX9_stepOfWay, some .int)
def qX9_stepBetween : MI := (9, 5, 8, cX9_stepBetween, yX9_stepBetween, some .int)
def qX10_append : MI := (10, 5, 8, cX10_append, yX10_append, some .int)
def qX10_wipe : MI := (10, 2, 8, cX10_wipe, yX10_wipe, some .int)
def qX10_lookAtFirst : MI := (10, 1, 12, cX10_lookAtFirst, yX10_lookAtFirst, none)
def qX10_lookAtNext : MI := (10, 1, 11, cX10_lookAtNext, yX10_lookAtNext, none)
def qX10_takeWord : MI := (10, 1, 10, cX10_takeWord, yX10_takeWord, none)
def qX10_takeNumber : MI := (10, 1, 9, cX10_takeNumber, yX10_takeNumber, none)
def qX10_itemOfWord : MI := (10, 1, 9, cX10_itemOfWord, yX10_itemOfWord, some .int)
def qX10_isWord : MI := (10, 3, 8, cX10_isWord, yX10_isWord, some .boolean)
def qX10_isLetter : MI := (10, 1, 8, cX10_isLetter, yX10_isLetter, some .boolean)
def qX10_isFigure : MI := (10, 1, 8, cX10_isFigure, yX10_isFigure, some .boolean)
def qX11_bridge : MI := (11, 5, 10, cX11_bridge, yX11_bridge, some .int)
def qX11_chain : MI := (11, 4, 10, cX11_chain, yX11_chain, some .int)
def qX11_load : MI := (11, 3, 10, cX11_load, yX11_load, some .int)
def qX11_one : MI := (11, 3, 10, cX11_one, yX11_one, some .int)
def qX11_weight : MI := (11, 2, 11, cX11_weight, yX11_weight, some .int)
def qX11_where : MI := (11, 2, 9, cX11_where, yX11_where, some .int)
def qX11_lying : MI := (11, 1, 8, cX11_lying, yX11_lying, some .int)
def qX11_type : MI := (11, 4, 9, cX11_type, yX11_type, some .int)
def qX11_clear : MI := (11, 1, 9, cX11_clear, yX11_clear, some .int)
def qX11_read : MI := (11, 2, 14, cX11_read, yX11_read, some .int)
def qX11_step : MI := (11, 3, 12, cX11_step, yX11_step, some .int)
def qX11_undo : MI := (11, 1, 9, cX11_undo, yX11_undo, some .int)
def qX11_way : MI := (11, 5, 15, cX11_way, yX11_way, some .int)
def qX11_reach : MI := (11, 3, 15, cX11_reach, yX11_reach, some .int)
def qX11_can : MI := (11, 2, 15, cX11_can, yX11_can, some .int)
def qX11_closed : MI := (11, 5, 15, cX11_closed, yX11_closed, some .int)
def qX11_child : MI := (11, 3, 15, cX11_child, yX11_child, some .int)
def qX11_cut : MI := (11, 7, 15, cX11_cut, yX11_cut, some .int)
def qX11_tie : MI := (11, 9, 15, cX11_tie, yX11_tie, some .int)
def qX11_stone : MI := (11, 8, 15, cX11_stone, yX11_stone, some .int)
def qX11_keep : MI := (11, 6, 14, cX11_keep, yX11_keep, some .int)
def qX11_wet : MI := (11, 6, 30, cX11_wet, yX11_wet, some .int)
def qX11_image : MI := (11, 2, 10, cX11_image, yX11_image, some .int)
def qX11_from : MI := (11, 2, 10, cX11_from, yX11_from, some .int)
def qX11_status : MI := (11, 2, 9, cX11_status, yX11_status, some .int)
def qX11_count : MI := (11, 2, 9, cX11_count, yX11_count, some .int)
def qX11_digest : MI := (11, 3, 9, cX11_digest, yX11_digest, some .long)
def qX11_counted : MI := (11, 2, 8, cX11_counted, yX11_counted, some .int)
def qX11_stepsNow : MI := (11, 3, 14, cX11_stepsNow, yX11_stepsNow, some .int)
def qX11_lyingsNow : MI := (11, 1, 14, cX11_lyingsNow, yX11_lyingsNow, some .int)
def qX11_isRoom : MI := (11, 1, 8, cX11_isRoom, yX11_isRoom, some .boolean)
def qX11_isStone : MI := (11, 1, 8, cX11_isStone, yX11_isStone, some .boolean)
def qX11_isImage : MI := (11, 1, 8, cX11_isImage, yX11_isImage, some .boolean)
def qX11_isAmong : MI := (11, 2, 8, cX11_isAmong, yX11_isAmong, some .boolean)
def qX11_downInAll : MI := (11, 4, 9, cX11_downInAll, yX11_downInAll, some .int)
def qX11_downInSome : MI := (11, 3, 9, cX11_downInSome, yX11_downInSome, some .int)
def qX11_rowsOf : MI := (11, 10, 99, cX11_rowsOf, yX11_rowsOf, some .int)
def qX12_in : MI := (12, 6, 8, cX12_in, yX12_in, some .boolean)
def qX12_has : MI := (12, 2, 8, cX12_has, yX12_has, some .boolean)
def qX12_ones : MI := (12, 3, 8, cX12_ones, yX12_ones, some .int)
def qX12_met : MI := (12, 2, 8, cX12_met, yX12_met, some .int)
def qX12_bad : MI := (12, 1, 9, cX12_bad, yX12_bad, some .int)
def qX12_copy : MI := (12, 4, 8, cX12_copy, yX12_copy, none)
def qX12_addBridge : MI := (12, 7, 9, cX12_addBridge, yX12_addBridge, some .int)
def qX12_isBridge : MI := (12, 3, 9, cX12_isBridge, yX12_isBridge, some .boolean)
def qX12_isTied : MI := (12, 5, 8, cX12_isTied, yX12_isTied, some .boolean)
def qX12_addChain : MI := (12, 6, 10, cX12_addChain, yX12_addChain, some .int)
def qX12_setLoad : MI := (12, 5, 10, cX12_setLoad, yX12_setLoad, some .int)
def qX12_addOne : MI := (12, 5, 9, cX12_addOne, yX12_addOne, some .int)
def qX12_bridge : MI := (12, 5, 10, cX12_bridge, yX12_bridge, some .int)
def qX12_chain : MI := (12, 4, 11, cX12_chain, yX12_chain, some .int)
def qX12_load : MI := (12, 3, 11, cX12_load, yX12_load, some .int)
def qX12_one : MI := (12, 3, 10, cX12_one, yX12_one, some .int)
def qX12_layNow : MI := (12, 2, 9, cX12_layNow, yX12_layNow, none)
def qX12_tieMore : MI := (12, 4, 8, cX12_tieMore, yX12_tieMore, none)
def qX12_loadOf : MI := (12, 4, 9, cX12_loadOf, yX12_loadOf, some .int)
def qX12_tip : MI := (12, 5, 9, cX12_tip, yX12_tip, none)
def qX12_tipAll : MI := (12, 3, 10, cX12_tipAll, yX12_tipAll, none)
def qX12_isOf : MI := (12, 3, 8, cX12_isOf, yX12_isOf, some .boolean)
def qX12_mayStep : MI := (12, 6, 9, cX12_mayStep, yX12_mayStep, some .boolean)
def qX12_asNow : MI := (12, 2, 9, cX12_asNow, yX12_asNow, none)
def qX12_codeNow : MI := (12, 1, 8, cX12_codeNow, yX12_codeNow, some .int)
def qX12_decode : MI := (12, 2, 8, cX12_decode, yX12_decode, none)
def qX12_weight : MI := (12, 2, 10, cX12_weight, yX12_weight, some .int)
def qX12_isOne : MI := (12, 2, 9, cX12_isOne, yX12_isOne, some .boolean)
def qX12_where : MI := (12, 2, 10, cX12_where, yX12_where, some .int)
def qX12_lying : MI := (12, 1, 8, cX12_lying, yX12_lying, some .int)
def qX12_type : MI := (12, 5, 10, cX12_type, yX12_type, some .int)
def qX12_clear : MI := (12, 2, 8, cX12_clear, yX12_clear, some .int)
def qX12_isEnd : MI := (12, 1, 8, cX12_isEnd, yX12_isEnd, some .boolean)
def qX12_wordOf : MI := (12, 2, 8, cX12_wordOf, yX12_wordOf, some .int)
def qX12_takeNumber : MI := (12, 3, 9, cX12_takeNumber, yX12_takeNumber, some .int)
def qX12_takeItem : MI := (12, 6, 10, cX12_takeItem, yX12_takeItem, none)
def qX12_tellItem : MI := (12, 5, 11, cX12_tellItem, yX12_tellItem, some .int)
def qX12_read : MI := (12, 2, 12, cX12_read, yX12_read, some .int)
def qX12_isPlace : MI := (12, 2, 9, cX12_isPlace, yX12_isPlace, some .boolean)
def qX12_step : MI := (12, 5, 11, cX12_step, yX12_step, some .int)
def qX12_undo : MI := (12, 3, 9, cX12_undo, yX12_undo, some .int)
def qX12_goAll : MI := (12, 5, 11, cX12_goAll, yX12_goAll, none)
def qX12_findWay : MI := (12, 6, 12, cX12_findWay, yX12_findWay, some .int)
def qX12_stepsTo : MI := (12, 4, 8, cX12_stepsTo, yX12_stepsTo, some .int)
def qX12_stepsOf : MI := (12, 4, 13, cX12_stepsOf, yX12_stepsOf, some .int)
def qX12_areSome : MI := (12, 2, 9, cX12_areSome, yX12_areSome, some .boolean)
def qX12_isRoom : MI := (12, 1, 9, cX12_isRoom, yX12_isRoom, some .boolean)
def qX12_way : MI := (12, 7, 13, cX12_way, yX12_way, some .int)
def qX12_lyings : MI := (12, 3, 8, cX12_lyings, yX12_lyings, some .int)
def qX12_allLyings : MI := (12, 1, 12, cX12_allLyings, yX12_allLyings, some .int)
def qX12_many : MI := (12, 3, 8, cX12_many, yX12_many, some .int)
def qX12_reach : MI := (12, 6, 13, cX12_reach, yX12_reach, some .int)
def qX12_can : MI := (12, 2, 13, cX12_can, yX12_can, some .int)
def qX12_closed : MI := (12, 6, 13, cX12_closed, yX12_closed, some .int)
def qX12_child : MI := (12, 3, 13, cX12_child, yX12_child, some .int)
def qX12_cut : MI := (12, 7, 14, cX12_cut, yX12_cut, some .int)
def qX12_tie : MI := (12, 8, 14, cX12_tie, yX12_tie, some .int)
def qX12_stone : MI := (12, 8, 14, cX12_stone, yX12_stone, some .int)
def qX12_keep : MI := (12, 7, 13, cX12_keep, yX12_keep, some .int)
def qX12_wet : MI := (12, 9, 11, cX12_wet, yX12_wet, some .int)
def qX12_image : MI := (12, 2, 10, cX12_image, yX12_image, some .int)
def qX12_from : MI := (12, 2, 10, cX12_from, yX12_from, some .int)
def qX12_status : MI := (12, 2, 9, cX12_status, yX12_status, some .int)
def qX12_countOf : MI := (12, 2, 8, cX12_countOf, yX12_countOf, some .int)
def qX12_count : MI := (12, 2, 10, cX12_count, yX12_count, some .int)
def qX12_mix : MI := (12, 3, 8, cX12_mix, yX12_mix, none)
def qX12_digest : MI := (12, 2, 9, cX12_digest, yX12_digest, some .long)
def qJ6_bitCount_0f7a4 : MI := (20, 1, 8, cJ6_bitCount_0f7a4, yJ6_bitCount_0f7a4, some .int)
def qJ9_max_7cf53 : MI := (21, 2, 8, cJ9_max_7cf53, yJ9_max_7cf53, some .int)
def qJ9_min_7cf53 : MI := (21, 2, 8, cJ9_min_7cf53, yJ9_min_7cf53, some .int)
def qJ7_fill_d0a16 : MI := (22, 5, 8, cJ7_fill_d0a16, yJ7_fill_d0a16, none)
def qL_law : MI := (30, 4, 60, cL_law, yL_law, some .boolean)
def oNm (k : Nat) : String := match k with
  | 0 => RX0
  | 1 => RX1
  | 2 => RX2
  | 3 => RX3
  | 4 => RX4
  | 5 => RX5
  | 6 => RX6
  | 7 => RX7
  | 8 => RX8
  | 9 => RX9
  | 10 => RX10
  | 11 => RX11
  | 12 => RX12
  | 20 => RJ6
  | 21 => RJ9
  | 22 => RJ7
  | 30 => RL
  | _ => ""
def cTb : List (Nat × Nat × Nat × Nat) := [(2, 81, 0, 0), (2, 84, 6, 5), (2, 90, 0, 1), (2, 94, 3, 1), (2, 98, 0, 1), (2, 101, 0, 1), (2, 104, 0, 0), (2, 108, 0, 2), (2, 112, 4, 1), (2, 116, 2, 2), (2, 122, 2, 2), (2, 125, 0, 1), (2, 128, 0, 1), (2, 131, 0, 2), (2, 135, 4, 0), (2, 139, 4, 0), (3, 7, 5, 1), (6, 19, 6, 5), (8, 15, 0, 0), (8, 20, 0, 0), (8, 29, 0, 1), (8, 36, 0, 1), (8, 49, 0, 0), (8, 52, 0, 4), (8, 56, 0, 3), (8, 60, 0, 2), (8, 64, 0, 2), (9, 19, 0, 0), (9, 25, 0, 1), (9, 33, 0, 1), (9, 37, 0, 1), (9, 40, 0, 2), (9, 47, 0, 2), (9, 51, 2, 2), (9, 60, 0, 2), (9, 73, 0, 2), (9, 76, 0, 2), (9, 79, 0, 1), (9, 82, 2, 2), (10, 24, 0, 0), (10, 33, 2, 1), (10, 37, 0, 0), (10, 40, 2, 1), (10, 43, 0, 0), (10, 46, 0, 0), (10, 55, 0, 1), (10, 69, 7, 0), (10, 73, 8, 1), (11, 48, 0, 4), (11, 52, 0, 1), (11, 56, 0, 3), (11, 60, 0, 2), (11, 64, 0, 2), (11, 67, 0, 1), (11, 71, 0, 1), (11, 74, 0, 1), (11, 85, 0, 2), (11, 89, 0, 0), (11, 93, 0, 2), (11, 97, 0, 1), (11, 101, 0, 1), (11, 104, 0, 2), (11, 112, 0, 0), (11, 115, 0, 1), (11, 121, 0, 2), (11, 128, 0, 0), (11, 131, 0, 1), (11, 134, 0, 1), (11, 137, 2, 1), (11, 140, 0, 2), (11, 143, 0, 2), (11, 146, 0, 0), (11, 152, 2, 1), (11, 157, 0, 0), (11, 160, 2, 2), (11, 163, 2, 1), (11, 166, 0, 1), (11, 169, 2, 2), (11, 172, 0, 1), (11, 175, 0, 1), (11, 178, 0, 4), (11, 188, 0, 1), (11, 194, 2, 1), (11, 197, 0, 2), (11, 200, 0, 1), (11, 203, 2, 5), (11, 207, 2, 1), (11, 229, 0, 1), (12, 56, 0, 1), (12, 62, 2, 3), (12, 68, 0, 2), (12, 74, 0, 2), (12, 79, 0, 5), (12, 83, 0, 4), (12, 87, 0, 3), (12, 91, 0, 3), (12, 98, 0, 3), (12, 105, 2, 2), (12, 111, 0, 1), (12, 114, 0, 2), (12, 118, 0, 2), (12, 121, 0, 0), (12, 125, 0, 0), (12, 128, 0, 0), (12, 131, 0, 1), (12, 155, 0, 0), (12, 174, 2, 1), (12, 181, 0, 0), (12, 184, 0, 0), (12, 187, 0, 1), (12, 190, 0, 2), (12, 193, 0, 1), (12, 196, 0, 2), (12, 199, 0, 0), (12, 202, 0, 0), (12, 208, 0, 1), (12, 212, 0, 0), (12, 215, 0, 2), (12, 220, 0, 1), (12, 223, 0, 1), (12, 226, 2, 1), (12, 229, 0, 0), (12, 234, 0, 0), (12, 237, 2, 1), (12, 240, 0, 2), (12, 243, 2, 1), (12, 249, 0, 1), (12, 260, 0, 1), (30, 13, 0, 4), (30, 17, 0, 4), (30, 18, 0, 3), (30, 22, 0, 3), (30, 23, 0, 2), (30, 27, 0, 2), (30, 28, 0, 2), (30, 31, 0, 2), (30, 32, 0, 1), (30, 36, 0, 1), (30, 37, 0, 1), (30, 40, 0, 1), (30, 41, 0, 0), (30, 45, 0, 0), (30, 48, 0, 2), (30, 52, 0, 2), (30, 53, 0, 0), (30, 56, 0, 0), (30, 57, 0, 0), (30, 60, 0, 0), (30, 61, 0, 2), (30, 64, 0, 2), (30, 65, 0, 0), (30, 68, 0, 0), (30, 69, 0, 3), (30, 72, 0, 3), (30, 73, 0, 1), (30, 76, 0, 1), (30, 77, 0, 1), (30, 80, 0, 1), (30, 81, 0, 1), (30, 84, 0, 1), (30, 85, 0, 1), (30, 88, 0, 1), (30, 89, 0, 2), (30, 92, 0, 2), (30, 93, 0, 2), (30, 96, 0, 2), (30, 97, 0, 3), (30, 100, 0, 3), (30, 101, 0, 3), (30, 104, 0, 3), (30, 105, 0, 4), (30, 109, 0, 4), (30, 110, 0, 1), (30, 113, 0, 1), (30, 114, 0, 1), (30, 117, 0, 1), (30, 118, 0, 1), (30, 121, 0, 1), (30, 122, 0, 1), (30, 125, 0, 1), (30, 126, 0, 0), (30, 130, 0, 0)]
def cTab (ow idx : Nat) : Option (Nat × Nat) := (cTb.find? (fun q => q.1 == ow && q.2.1 == idx)).map (fun q => (q.2.2.1, q.2.2.2))
def sTb_0 : List (Nat × Nat × Nat × Nat × Nat × MI) := [(2, 81, 6, 0, 0, qX6_forget), (2, 90, 6, 0, 1, qX6_take), (2, 94, 99, 3, 1, qX11_isRoom), (2, 98, 2, 0, 1, qX2_isBridge), (2, 101, 2, 0, 1, qX2_isTied), (2, 104, 2, 0, 0, qX2_allBridges), (2, 108, 2, 0, 2, qX2_joins), (2, 112, 0, 4, 1, qX0_loadBy), (2, 112, 1, 4, 1, qX1_loadBy), (2, 112, 3, 4, 1, qX3_loadBy), (2, 112, 4, 4, 1, qX1_loadBy), (2, 112, 5, 4, 1, qX7_loadBy), (2, 112, 7, 4, 1, qX7_loadBy), (2, 116, 99, 2, 2, qJ9_min_7cf53), (2, 122, 99, 2, 2, qJ9_max_7cf53), (2, 125, 2, 0, 1, qX2_isDown), (2, 128, 2, 0, 1, qX2_loadOn), (2, 131, 2, 0, 2, qX2_tip), (2, 135, 0, 4, 0, qX7_mayFall), (2, 135, 1, 4, 0, qX7_mayFall), (2, 135, 3, 4, 0, qX7_mayFall), (2, 135, 4, 4, 0, qX4_mayFall), (2, 135, 5, 4, 0, qX7_mayFall), (2, 135, 7, 4, 0, qX7_mayFall), (2, 139, 0, 4, 0, qX7_mayRise)]
def sTb_1 : List (Nat × Nat × Nat × Nat × Nat × MI) := [(2, 139, 1, 4, 0, qX7_mayRise), (2, 139, 3, 4, 0, qX7_mayRise), (2, 139, 4, 4, 0, qX7_mayRise), (2, 139, 5, 4, 0, qX5_mayRise), (2, 139, 7, 4, 0, qX7_mayRise), (3, 7, 0, 5, 1, qX0_loadBy), (8, 15, 2, 0, 0, qX2_empty), (8, 20, 10, 0, 0, qX10_lookAtFirst), (8, 29, 8, 0, 1, qX8_readItem), (8, 36, 8, 0, 1, qX8_tell), (8, 49, 10, 0, 0, qX10_lookAtNext), (8, 52, 2, 0, 4, qX2_addBridge), (8, 56, 2, 0, 3, qX2_addChain), (8, 60, 2, 0, 2, qX2_addPerson), (8, 64, 2, 0, 2, qX2_setBallast), (9, 19, 2, 0, 0, qX2_packed), (9, 25, 9, 0, 1, qX9_begin), (9, 33, 9, 0, 1, qX9_stateAt), (9, 37, 2, 0, 1, qX2_unpack), (9, 40, 2, 0, 2, qX2_areIn), (9, 47, 9, 0, 2, qX9_goOn), (9, 51, 99, 2, 2, qJ7_fill_d0a16), (9, 60, 9, 0, 2, qX9_note), (9, 73, 2, 0, 2, qX2_canGo), (9, 76, 2, 0, 2, qX2_go)]
def sTb_2 : List (Nat × Nat × Nat × Nat × Nat × MI) := [(9, 79, 9, 0, 1, qX9_before), (9, 82, 99, 2, 2, qX9_stepBetween), (10, 24, 10, 0, 0, qX10_lookAtNext), (10, 33, 99, 2, 1, qX10_isLetter), (10, 37, 10, 0, 0, qX10_takeWord), (10, 40, 99, 2, 1, qX10_isFigure), (10, 43, 10, 0, 0, qX10_takeNumber), (10, 46, 10, 0, 0, qX10_itemOfWord), (10, 55, 10, 0, 1, qX10_isWord), (11, 48, 2, 0, 4, qX2_addBridge), (11, 52, 11, 0, 1, qX11_counted), (11, 56, 2, 0, 3, qX2_addChain), (11, 60, 2, 0, 2, qX2_setBallast), (11, 64, 2, 0, 2, qX2_addPerson), (11, 67, 2, 0, 1, qX2_isBridge), (11, 71, 2, 0, 1, qX2_loadOn), (11, 74, 2, 0, 1, qX2_isPerson), (11, 85, 10, 0, 2, qX10_append), (11, 89, 10, 0, 0, qX10_wipe), (11, 93, 8, 0, 2, qX8_readInto), (11, 97, 2, 0, 1, qX2_take), (11, 101, 2, 0, 1, qX2_isPlace), (11, 104, 2, 0, 2, qX2_canGo), (11, 112, 2, 0, 0, qX2_packed), (11, 115, 6, 0, 1, qX6_push)]
def sTb_3 : List (Nat × Nat × Nat × Nat × Nat × MI) := [(11, 121, 2, 0, 2, qX2_go), (11, 128, 6, 0, 0, qX6_pop), (11, 131, 2, 0, 1, qX2_unpack), (11, 134, 2, 0, 1, qX2_areSome), (11, 137, 99, 2, 1, qX11_isRoom), (11, 140, 11, 0, 2, qX11_stepsNow), (11, 143, 9, 0, 2, qX9_stepOfWay), (11, 146, 11, 0, 0, qX11_lyingsNow), (11, 152, 99, 2, 1, qJ6_bitCount_0f7a4), (11, 157, 2, 0, 0, qX2_allBridges), (11, 160, 99, 2, 2, qX11_downInAll), (11, 163, 99, 2, 1, qX11_downInSome), (11, 166, 2, 0, 1, qX2_areBridges), (11, 169, 99, 2, 2, qX11_isAmong), (11, 172, 2, 0, 1, qX2_bridgesOf), (11, 175, 2, 0, 1, qX2_leaveOut), (11, 178, 9, 0, 4, qX9_shorter), (11, 188, 2, 0, 1, qX2_dropChain), (11, 194, 99, 2, 1, qX11_isStone), (11, 197, 2, 0, 2, qX2_addStones), (11, 200, 2, 0, 1, qX2_leaveAlone), (11, 203, 99, 2, 5, qX11_rowsOf), (11, 207, 99, 2, 1, qX11_isImage), (11, 229, 2, 0, 1, qX2_digestOn), (12, 56, 12, 0, 1, qX12_met)]
def sTb_4 : List (Nat × Nat × Nat × Nat × Nat × MI) := [(12, 62, 99, 2, 3, qX12_in), (12, 68, 12, 0, 2, qX12_isBridge), (12, 74, 12, 0, 2, qX12_isTied), (12, 79, 12, 0, 5, qX12_addBridge), (12, 83, 12, 0, 4, qX12_addChain), (12, 87, 12, 0, 3, qX12_setLoad), (12, 91, 12, 0, 3, qX12_addOne), (12, 98, 12, 0, 3, qX12_tieMore), (12, 105, 99, 2, 2, qX12_has), (12, 111, 12, 0, 1, qX12_loadOf), (12, 114, 12, 0, 2, qX12_tip), (12, 118, 12, 0, 2, qX12_isOf), (12, 121, 12, 0, 0, qX12_bad), (12, 125, 12, 0, 0, qX12_layNow), (12, 128, 12, 0, 0, qX12_asNow), (12, 131, 12, 0, 1, qX12_isOne), (12, 155, 12, 0, 0, qX12_isEnd), (12, 174, 99, 2, 1, qX12_wordOf), (12, 181, 12, 0, 0, qX12_takeNumber), (12, 184, 12, 0, 0, qX12_takeItem), (12, 187, 12, 0, 1, qX12_tellItem), (12, 190, 12, 0, 2, qX12_copy), (12, 193, 12, 0, 1, qX12_isPlace), (12, 196, 12, 0, 2, qX12_mayStep), (12, 199, 12, 0, 0, qX12_tipAll)]
def sTb_5 : List (Nat × Nat × Nat × Nat × Nat × MI) := [(12, 202, 12, 0, 0, qX12_codeNow), (12, 208, 12, 0, 1, qX12_decode), (12, 212, 12, 0, 0, qX12_goAll), (12, 215, 12, 0, 2, qX12_findWay), (12, 220, 12, 0, 1, qX12_stepsTo), (12, 223, 12, 0, 1, qX12_areSome), (12, 226, 99, 2, 1, qX12_isRoom), (12, 229, 12, 0, 0, qX12_lyings), (12, 234, 12, 0, 0, qX12_allLyings), (12, 237, 99, 2, 1, qX12_many), (12, 240, 12, 0, 2, qX12_stepsOf), (12, 243, 99, 2, 1, qX12_ones), (12, 249, 12, 0, 1, qX12_countOf), (12, 260, 12, 0, 1, qX12_mix), (30, 13, 11, 0, 4, qX11_bridge), (30, 17, 12, 0, 4, qX12_bridge), (30, 18, 11, 0, 3, qX11_chain), (30, 22, 12, 0, 3, qX12_chain), (30, 23, 11, 0, 2, qX11_load), (30, 27, 12, 0, 2, qX12_load), (30, 28, 11, 0, 2, qX11_one), (30, 31, 12, 0, 2, qX12_one), (30, 32, 11, 0, 1, qX11_weight), (30, 36, 12, 0, 1, qX12_weight), (30, 37, 11, 0, 1, qX11_where)]
def sTb_6 : List (Nat × Nat × Nat × Nat × Nat × MI) := [(30, 40, 12, 0, 1, qX12_where), (30, 41, 11, 0, 0, qX11_lying), (30, 45, 12, 0, 0, qX12_lying), (30, 48, 11, 0, 2, qX11_type), (30, 52, 12, 0, 2, qX12_type), (30, 53, 11, 0, 0, qX11_clear), (30, 56, 12, 0, 0, qX12_clear), (30, 57, 11, 0, 0, qX11_read), (30, 60, 12, 0, 0, qX12_read), (30, 61, 11, 0, 2, qX11_step), (30, 64, 12, 0, 2, qX12_step), (30, 65, 11, 0, 0, qX11_undo), (30, 68, 12, 0, 0, qX12_undo), (30, 69, 11, 0, 3, qX11_way), (30, 72, 12, 0, 3, qX12_way), (30, 73, 11, 0, 1, qX11_reach), (30, 76, 12, 0, 1, qX12_reach), (30, 77, 11, 0, 1, qX11_can), (30, 80, 12, 0, 1, qX12_can), (30, 81, 11, 0, 1, qX11_closed), (30, 84, 12, 0, 1, qX12_closed), (30, 85, 11, 0, 1, qX11_child), (30, 88, 12, 0, 1, qX12_child), (30, 89, 11, 0, 2, qX11_cut), (30, 92, 12, 0, 2, qX12_cut)]
def sTb_7 : List (Nat × Nat × Nat × Nat × Nat × MI) := [(30, 93, 11, 0, 2, qX11_tie), (30, 96, 12, 0, 2, qX12_tie), (30, 97, 11, 0, 3, qX11_stone), (30, 100, 12, 0, 3, qX12_stone), (30, 101, 11, 0, 3, qX11_keep), (30, 104, 12, 0, 3, qX12_keep), (30, 105, 11, 0, 4, qX11_wet), (30, 109, 12, 0, 4, qX12_wet), (30, 110, 11, 0, 1, qX11_image), (30, 113, 12, 0, 1, qX12_image), (30, 114, 11, 0, 1, qX11_from), (30, 117, 12, 0, 1, qX12_from), (30, 118, 11, 0, 1, qX11_status), (30, 121, 12, 0, 1, qX12_status), (30, 122, 11, 0, 1, qX11_count), (30, 125, 12, 0, 1, qX12_count), (30, 126, 11, 0, 0, qX11_digest), (30, 130, 12, 0, 0, qX12_digest)]
def sTb : List (Nat × Nat × Nat × Nat × Nat × MI) := sTb_0 ++ (sTb_1 ++ (sTb_2 ++ (sTb_3 ++ (sTb_4 ++ (sTb_5 ++ (sTb_6 ++ (sTb_7)))))))
def sTab (ow idx C : Nat) : Option (Nat × Nat × MI) := (sTb.find? (fun q => q.1 == ow && (q.2.1 == idx && q.2.2.1 == C))).map (fun q => q.2.2.2)
def fTb : List (Nat × Nat × Nat × Nat × Nat × Nat) := [(2, 27, 0, 2, 0, 146), (2, 33, 0, 2, 2, 150), (2, 37, 0, 2, 3, 151), (2, 40, 0, 2, 4, 152), (2, 43, 0, 2, 5, 153), (2, 46, 0, 2, 8, 158), (2, 49, 0, 2, 9, 159), (2, 52, 0, 2, 10, 160), (2, 55, 0, 2, 12, 164), (2, 58, 0, 2, 13, 165), (2, 64, 0, 2, 14, 168), (2, 68, 0, 2, 1, 147), (2, 72, 0, 2, 6, 154), (2, 75, 0, 2, 7, 156), (2, 78, 0, 2, 11, 161), (6, 9, 0, 6, 0, 137), (6, 15, 0, 6, 1, 138), (8, 9, 0, 8, 0, 238), (8, 25, 1, 10, 2, 211), (8, 33, 1, 10, 3, 213), (8, 40, 1, 10, 5, 216), (8, 43, 0, 8, 1, 239), (9, 9, 0, 9, 0, 251), (9, 15, 0, 9, 1, 252), (9, 29, 0, 9, 2, 253), (9, 44, 0, 9, 4, 257), (9, 57, 0, 9, 3, 255), (9, 64, 1, 2, 11, 162), (9, 67, 1, 2, 13, 166), (9, 70, 1, 2, 1, 148), (10, 9, 0, 10, 0, 208), (10, 15, 0, 10, 1, 209), (10, 21, 0, 10, 4, 215), (10, 27, 0, 10, 3, 214), (10, 30, 0, 10, 2, 212), (10, 50, 0, 10, 5, 217), (11, 12, 0, 11, 0, 270), (11, 16, 0, 11, 1, 271), (11, 19, 0, 11, 2, 272), (11, 23, 0, 11, 3, 273), (11, 30, 0, 11, 4, 274), (11, 37, 0, 11, 5, 275), (11, 44, 0, 11, 6, 276), (11, 77, 1, 2, 13, 167), (11, 81, 1, 2, 6, 155), (11, 108, 1, 2, 14, 169), (11, 125, 1, 6, 1, 139), (11, 149, 1, 9, 2, 254), (11, 182, 1, 9, 3, 256), (11, 185, 1, 2, 7, 157), (11, 191, 1, 2, 1, 149), (11, 210, 0, 11, 7, 277), (11, 213, 0, 11, 8, 278), (11, 216, 0, 11, 9, 279), (11, 219, 1, 2, 11, 163), (11, 222, 1, 10, 1, 210), (12, 7, 0, 12, 0, 790), (12, 13, 0, 12, 1, 791), (12, 17, 0, 12, 2, 792), (12, 20, 0, 12, 4, 794), (12, 23, 0, 12, 5, 795), (12, 26, 0, 12, 7, 797), (12, 29, 0, 12, 8, 798), (12, 32, 0, 12, 9, 799), (12, 35, 0, 12, 11, 801), (12, 38, 0, 12, 13, 803), (12, 41, 0, 12, 14, 804), (12, 44, 0, 12, 18, 808), (12, 47, 0, 12, 19, 809), (12, 50, 0, 12, 21, 811), (12, 53, 0, 12, 22, 812), (12, 94, 0, 12, 6, 796), (12, 102, 0, 12, 10, 800), (12, 108, 0, 12, 12, 802), (12, 137, 0, 12, 3, 793), (12, 142, 0, 12, 16, 806), (12, 159, 0, 12, 17, 807), (12, 178, 0, 12, 15, 805), (12, 205, 0, 12, 20, 810), (12, 254, 0, 12, 23, 813)]
def fTab (ow idx : Nat) : Option (Nat × Nat × Nat) := (fTb.find? (fun q => q.1 == ow && q.2.1 == idx)).map (fun q => (q.2.2.1, q.2.2.2.1, q.2.2.2.2.1))
/-- 0 an int, 1 a long, 3 a reference -/
def fTy (ci s : Nat) : Nat := match ci with
  | 2 => ([3, 0, 3, 3, 3, 3, 0, 0, 3, 3, 3, 0, 3, 3, 3] : List Nat).getD s 0
  | 6 => ([3, 0] : List Nat).getD s 0
  | 8 => ([3, 0] : List Nat).getD s 0
  | 9 => ([3, 3, 0, 0, 0] : List Nat).getD s 0
  | 10 => ([3, 0, 0, 0, 0, 0] : List Nat).getD s 0
  | 11 => ([3, 3, 3, 3, 3, 3, 3, 0, 0, 0] : List Nat).getD s 0
  | 12 => ([3, 3, 3, 0, 3, 3, 0, 3, 3, 3, 0, 3, 0, 3, 3, 0, 0, 0, 3, 3, 0, 3, 3, 1] : List Nat).getD s 0
  | _ => 0
def fNm (ci : Nat) : Nat := ([0, 0, 15, 0, 0, 0, 2, 0, 2, 5, 6, 10, 24] : List Nat).getD ci 0
def kTb : List (Nat × Nat × Int × Nat) := [(20, 265, 1431655765, 675), (20, 266, 858993459, 676), (20, 267, 252645135, 677), (12, 219, 100000, 1096)]
def kTab (ow idx : Nat) : Option Int := (kTb.find? (fun q => q.1 == ow && q.2.1 == idx)).map (fun q => q.2.2.1)
def lTb : List (Nat × Nat × Int × Nat) := [(10, 19, 255, 398), (11, 225, 773, 777), (11, 227, 31, 778), (2, 142, 31, 783), (12, 60, 4, 871), (12, 66, 5, 875), (12, 72, 9, 892), (12, 77, 20, 905), (12, 135, 8, 957), (12, 140, 255, 958), (12, 166, 97, 975), (12, 168, 122, 976), (12, 170, 32, 977), (12, 172, 96, 978), (12, 145, 86282469, 982), (12, 147, 147182, 983), (12, 149, 3409198, 984), (12, 151, 15813, 985), (12, 153, 408612, 986), (12, 162, 48, 991), (12, 164, 57, 992), (12, 232, 3, 1064), (12, 245, 6, 1116), (12, 247, 2, 1129), (12, 258, 773, 1142), (12, 252, 31, 1147), (30, 46, 4294967295, 1148)]
def lTab (ow idx : Nat) : Option Int := (lTb.find? (fun q => q.1 == ow && q.2.1 == idx)).map (fun q => q.2.2.1)
def gTb : List (Nat × Nat × Nat) := [(10, 53, 200), (10, 61, 201), (10, 63, 202), (10, 65, 203), (10, 67, 204)]
def gTab (ow idx : Nat) : Option Nat := (gTb.find? (fun q => q.1 == ow && q.2.1 == idx)).map (fun q => q.2.2)
def sTxt (a : Nat) : List Int := match a with
  | 200 => [98, 114, 105, 100, 103, 101]
  | 201 => [100, 111, 119, 110]
  | 202 => [99, 104, 97, 105, 110]
  | 203 => [111, 110, 101]
  | 204 => [108, 111, 97, 100]
  | _ => []
def sNm (a : Nat) : String := match a with
  | 200 => "bridge"
  | 201 => "down"
  | 202 => "chain"
  | 203 => "one"
  | 204 => "load"
  | _ => ""
def cNum : Nat := 102
/-- what a cell is: a class of vwCl, 100 int[], 101 long[], 102 boolean[], 103 Plain[], 104 Fort[] -/
def cKl : List Nat := [11, 2, 103, 7, 1, 0, 5, 4, 3, 100, 100, 100, 100, 100, 100, 100, 100, 100, 6, 100, 2, 103, 7, 1, 0, 5, 4, 3, 100, 100, 100, 100, 100, 100, 100, 100, 100, 6, 100, 104, 2, 103, 7, 1, 0, 5, 4, 3, 100, 100, 100, 100, 100, 100, 100, 100, 100, 6, 100, 2, 103, 7, 1, 0, 5, 4, 3, 100, 100, 100, 100, 100, 100, 100, 100, 100, 6, 100, 102, 10, 100, 8, 100, 9, 100, 101, 12, 100, 102, 100, 100, 100, 100, 100, 100, 100, 100, 100, 100, 100, 100, 100]
def cK (a : Nat) : Nat := cKl.getD a 999
def cLl : List Nat := [0, 0, 6, 0, 0, 0, 0, 0, 0, 5, 5, 5, 5, 2, 2, 2, 3, 3, 0, 16, 0, 6, 0, 0, 0, 0, 0, 0, 5, 5, 5, 5, 2, 2, 2, 3, 3, 0, 16, 2, 0, 6, 0, 0, 0, 0, 0, 0, 5, 5, 5, 5, 2, 2, 2, 3, 3, 0, 16, 0, 6, 0, 0, 0, 0, 0, 0, 5, 5, 5, 5, 2, 2, 2, 3, 3, 0, 16, 2, 0, 200, 0, 3, 0, 9000, 500, 0, 440, 2, 200, 3, 5, 3, 3, 3, 3, 40, 120, 32000, 32000, 10240, 10240]
def cLn (a : Nat) : Nat := cLl.getD a 0
def cRl : List (List Nat) := [[1, 20, 39, 78, 79, 81, 83], [2, 0, 9, 10, 11, 12, 0, 0, 13, 14, 15, 0, 16, 17, 18], [3, 4, 5, 6, 7, 8], [], [], [], [], [], [], [], [], [], [], [], [], [], [], [], [19], [], [21, 0, 28, 29, 30, 31, 0, 0, 32, 33, 34, 0, 35, 36, 37], [22, 23, 24, 25, 26, 27], [], [], [], [], [], [], [], [], [], [], [], [], [], [], [], [38], [], [40, 59], [41, 0, 48, 49, 50, 51, 0, 0, 52, 53, 54, 0, 55, 56, 57], [42, 43, 44, 45, 46, 47], [], [], [], [], [], [], [], [], [], [], [], [], [], [], [], [58], [], [60, 0, 67, 68, 69, 70, 0, 0, 71, 72, 73, 0, 74, 75, 76], [61, 62, 63, 64, 65, 66], [], [], [], [], [], [], [], [], [], [], [], [], [], [], [], [77], [], [], [80], [], [82], [], [84, 85], [], [], [87, 88, 89, 0, 90, 91, 0, 92, 93, 94, 0, 95, 0, 96, 97, 0, 0, 0, 98, 99, 0, 100, 101], [], [], [], [], [], [], [], [], [], [], [], [], [], [], []]
def cRef (a s : Nat) : Nat := (cRl.getD a []).getD s 0
def nestW : List Cond := [(Jvm.Cond.fieldLinkNest "MiserBridges" (125 : Nat) "MiserBridges$Past" "size" "I" "MiserBridges"), (Jvm.Cond.fieldLinkNest "MiserBridges$Search" (70 : Nat) "MiserBridges$Fort" "bridges" "I" "MiserBridges"), (Jvm.Cond.fieldLinkNest "MiserBridges" (191 : Nat) "MiserBridges$Fort" "bridges" "I" "MiserBridges"), (Jvm.Cond.fieldLinkNest "MiserBridges" (81 : Nat) "MiserBridges$Fort" "lying" "I" "MiserBridges"), (Jvm.Cond.fieldLinkNest "MiserBridges" (185 : Nat) "MiserBridges$Fort" "chains" "I" "MiserBridges"), (Jvm.Cond.fieldLinkNest "MiserBridges$Search" (64 : Nat) "MiserBridges$Fort" "people" "I" "MiserBridges"), (Jvm.Cond.fieldLinkNest "MiserBridges" (219 : Nat) "MiserBridges$Fort" "people" "I" "MiserBridges"), (Jvm.Cond.fieldLinkNest "MiserBridges$Search" (67 : Nat) "MiserBridges$Fort" "place" "[I" "MiserBridges"), (Jvm.Cond.fieldLinkNest "MiserBridges" (77 : Nat) "MiserBridges$Fort" "place" "[I" "MiserBridges"), (Jvm.Cond.fieldLinkNest "MiserBridges" (108 : Nat) "MiserBridges$Fort" "past" "LMiserBridges$Past;" "MiserBridges"), (Jvm.Cond.fieldLinkNest "MiserBridges" (222 : Nat) "MiserBridges$Text" "length" "I" "MiserBridges"), (Jvm.Cond.fieldLinkNest "MiserBridges$Reader" (25 : Nat) "MiserBridges$Text" "token" "I" "MiserBridges"), (Jvm.Cond.fieldLinkNest "MiserBridges$Reader" (33 : Nat) "MiserBridges$Text" "start" "I" "MiserBridges"), (Jvm.Cond.fieldLinkNest "MiserBridges$Reader" (40 : Nat) "MiserBridges$Text" "value" "I" "MiserBridges"), (Jvm.Cond.fieldLinkNest "MiserBridges" (149 : Nat) "MiserBridges$Search" "found" "I" "MiserBridges"), (Jvm.Cond.fieldLinkNest "MiserBridges" (182 : Nat) "MiserBridges$Search" "lyings" "I" "MiserBridges"), (Jvm.Cond.methodLinkNest "MiserBridges$Fort" (94 : Nat) ({ cls := "MiserBridges", name := "isRoom", desc := "(I)Z" } : Jvm.MethodName) "MiserBridges")]
end
section
/-! THE SHADOW MACHINE: ints are Int, references are numbers of cells, which cells there are and what references they hold is fixed (cK, cLn, cRef); the heap is the numbers alone -/
abbrev SV : Type := Int ⊕ (Int ⊕ (Nat ⊕ Unit))
abbrev vI (x : Int) : SV := .inl x
abbrev vL (x : Int) : SV := .inr (.inl x)
abbrev vR (a : Nat) : SV := .inr (.inr (.inl a))
abbrev vU : SV := .inr (.inr (.inr ()))
abbrev Hp : Type := Nat → Nat → Int
abbrev ir (x : Int) : Prop := -2147483648 ≤ x ∧ x < 2147483648
abbrev lr (x : Int) : Prop := -9223372036854775808 ≤ x ∧ x < 9223372036854775808
def w32 (x : Int) : Int := (Int32.ofInt x).toInt
def w64 (x : Int) : Int := (Int64.ofInt x).toInt
def bAnd (a b : Int) : Int := (Int32.ofInt a &&& Int32.ofInt b).toInt
def bOr (a b : Int) : Int := (Int32.ofInt a ||| Int32.ofInt b).toInt
def bXor (a b : Int) : Int := (Int32.ofInt a ^^^ Int32.ofInt b).toInt
def bShl (a b : Int) : Int := (Int32.ofInt a <<< (Int32.ofInt b &&& 31)).toInt
def bShr (a b : Int) : Int := (Int32.ofInt a >>> (Int32.ofInt b &&& 31)).toInt
def bUsh (a b : Int) : Int := ((Int32.ofInt a).toUInt32 >>> ((Int32.ofInt b).toUInt32 &&& Int32.toUInt32 31)).toInt32.toInt
def lAnd (a b : Int) : Int := (Int64.ofInt a &&& Int64.ofInt b).toInt
def lOr (a b : Int) : Int := (Int64.ofInt a ||| Int64.ofInt b).toInt
def lShl (a b : Int) : Int := (Int64.ofInt a <<< ((Int32.ofInt b).toInt64 &&& 63)).toInt
def lShr (a b : Int) : Int := (Int64.ofInt a >>> ((Int32.ofInt b).toInt64 &&& 63)).toInt
def lUsh (a b : Int) : Int := ((Int64.ofInt a).toUInt64 >>> ((Int32.ofInt b).toInt64.toUInt64 &&& Int64.toUInt64 63)).toInt64.toInt
def lCmp (a b : Int) : Int := if b < a then 1 else if a = b then 0 else -1
def up (g : Hp) (a i : Nat) (v : Int) : Hp := fun a' i' => if a' = a ∧ i' = i then v else g a' i'
def cpy (g : Hp) (s sp d dp n : Nat) : Hp := fun a i => if a = d ∧ dp ≤ i ∧ i < dp + n then g s (sp + (i - dp)) else g a i
/-- how long an array is; the script's length stands in the heap -/
def aLen (a : Nat) (g : Hp) : Nat := if a = 220 then (g 220 100000).toNat else if a = 210 then 5 else cLn a
/-- an int array: ours, NUMBERS, the script -/
def isIA (a : Nat) : Bool := cK a == 100 || (a == 210 || a == 220)
def cat (v : SV) : Nat := match v with
  | .inr (.inl _) => 2
  | _ => 1
def kl (ls : List SV) (k : Nat) : List SV := match k with
  | 0 => ls
  | j + 1 => match ls[j]? with
    | some (.inr (.inl _)) => ls.set j vU
    | _ => ls
def st1 (ls : List SV) (k : Nat) (v : SV) : List SV := (kl ls k).set k v
def st2 (ls : List SV) (k : Nat) (v : SV) : List SV := ((kl ls k).set k v).set (k + 1) vU
def cnd (c : ClassFile.Cond) (a b : Int) : Bool := match c with
  | .eq => decide (a = b)
  | .ne => decide (a ≠ b)
  | .lt => decide (a < b)
  | .ge => decide (b ≤ a)
  | .gt => decide (b < a)
  | .le => decide (a ≤ b)
abbrev SC : Type := Nat × List SV × List SV × Hp
def ldI (pc len k : Nat) (ls st : List SV) (g : Hp) : Option SC := match ls[k]? with
  | some (.inl x) => some (pc + len, ls, .inl x :: st, g)
  | _ => none
def ldL (pc len k : Nat) (ls st : List SV) (g : Hp) : Option SC := match ls[k]? with
  | some (.inr (.inl x)) => some (pc + len, ls, .inr (.inl x) :: st, g)
  | _ => none
def ldR (pc len k : Nat) (ls st : List SV) (g : Hp) : Option SC := match ls[k]? with
  | some (.inr (.inr (.inl x))) => some (pc + len, ls, .inr (.inr (.inl x)) :: st, g)
  | _ => none
def soI (pc len k : Nat) (ls st : List SV) (g : Hp) : Option SC := match st with
  | .inl x :: r => if k < ls.length then some (pc + len, st1 ls k (.inl x), r, g) else none
  | _ => none
def soL (pc len k : Nat) (ls st : List SV) (g : Hp) : Option SC := match st with
  | .inr (.inl x) :: r => if k + 1 < ls.length then some (pc + len, st2 ls k (.inr (.inl x)), r, g) else none
  | _ => none
def bi (f : Int → Int → Int) (pc : Nat) (ls st : List SV) (g : Hp) : Option SC := match st with
  | .inl b :: .inl a :: r => some (pc + 1, ls, .inl (f a b) :: r, g)
  | _ => none
def bl (f : Int → Int → Int) (pc : Nat) (ls st : List SV) (g : Hp) : Option SC := match st with
  | .inr (.inl b) :: .inr (.inl a) :: r => some (pc + 1, ls, .inr (.inl (f a b)) :: r, g)
  | _ => none
def bs (f : Int → Int → Int) (pc : Nat) (ls st : List SV) (g : Hp) : Option SC := match st with
  | .inl b :: .inr (.inl a) :: r => some (pc + 1, ls, .inr (.inl (f a b)) :: r, g)
  | _ => none
def jmp (pc : Nat) (off : Int) (ls st : List SV) (g : Hp) : Option SC := if 0 ≤ (pc : Int) + off then some (((pc : Int) + off).toNat, ls, st, g) else none
def br (pc : Nat) (off : Int) (b : Bool) (ls st : List SV) (g : Hp) : Option SC := if 0 ≤ (pc : Int) + off then some (if b = true then ((pc : Int) + off).toNat else pc + 3, ls, st, g) else none
/-- one instruction that is neither a call nor a return -/
def sx (ow pc : Nat) (ls st : List SV) (g : Hp) (ins : ClassFile.Instr) : Option SC := match ins with
  | .iconst n => if ir n then some (pc + 1, ls, .inl n :: st, g) else none
  | .bipush n => if -128 ≤ n ∧ n < 128 then some (pc + 2, ls, .inl n :: st, g) else none
  | .sipush n => if -32768 ≤ n ∧ n < 32768 then some (pc + 3, ls, .inl n :: st, g) else none
  | .lconst n => some (pc + 1, ls, .inr (.inl (n : Nat)) :: st, g)
  | .ldc k => match kTab ow k with
    | some x => some (pc + 2, ls, .inl x :: st, g)
    | none => match gTab ow k with
      | some a => some (pc + 2, ls, .inr (.inr (.inl a)) :: st, g)
      | none => none
  | .ldc_w k => match kTab ow k with
    | some x => some (pc + 3, ls, .inl x :: st, g)
    | none => none
  | .ldc2_w k => match lTab ow k with
    | some x => some (pc + 3, ls, .inr (.inl x) :: st, g)
    | none => none
  | .iload_n k => ldI pc 1 k ls st g
  | .iload k => ldI pc 2 k ls st g
  | .lload_n k => ldL pc 1 k ls st g
  | .lload k => ldL pc 2 k ls st g
  | .aload_n k => ldR pc 1 k ls st g
  | .aload k => ldR pc 2 k ls st g
  | .istore_n k => soI pc 1 k ls st g
  | .istore k => soI pc 2 k ls st g
  | .lstore_n k => soL pc 1 k ls st g
  | .lstore k => soL pc 2 k ls st g
  | .iinc k n => match ls[k]? with
    | some (.inl x) => some (pc + 3, ls.set k (.inl (w32 (x + n))), st, g)
    | _ => none
  | .iadd => bi (fun a b => w32 (a + b)) pc ls st g
  | .isub => bi (fun a b => w32 (a - b)) pc ls st g
  | .imul => bi (fun a b => w32 (a * b)) pc ls st g
  | .iand => bi bAnd pc ls st g
  | .ior => bi bOr pc ls st g
  | .ixor => bi bXor pc ls st g
  | .ishl => bi bShl pc ls st g
  | .ishr => bi bShr pc ls st g
  | .iushr => bi bUsh pc ls st g
  | .idiv => match st with
    | .inl b :: .inl a :: r => if 0 ≤ a ∧ 0 < b then some (pc + 1, ls, .inl (a / b) :: r, g) else none
    | _ => none
  | .irem => match st with
    | .inl b :: .inl a :: r => if 0 ≤ a ∧ 0 < b then some (pc + 1, ls, .inl (a % b) :: r, g) else none
    | _ => none
  | .ineg => match st with
    | .inl a :: r => some (pc + 1, ls, .inl (w32 (-a)) :: r, g)
    | _ => none
  | .ladd => bl (fun a b => w64 (a + b)) pc ls st g
  | .lsub => bl (fun a b => w64 (a - b)) pc ls st g
  | .lmul => bl (fun a b => w64 (a * b)) pc ls st g
  | .land => bl lAnd pc ls st g
  | .lor => bl lOr pc ls st g
  | .lshl => bs lShl pc ls st g
  | .lshr => bs lShr pc ls st g
  | .lushr => bs lUsh pc ls st g
  | .lcmp => match st with
    | .inr (.inl b) :: .inr (.inl a) :: r => some (pc + 1, ls, .inl (lCmp a b) :: r, g)
    | _ => none
  | .i2l => match st with
    | .inl a :: r => some (pc + 1, ls, .inr (.inl a) :: r, g)
    | _ => none
  | .l2i => match st with
    | .inr (.inl a) :: r => some (pc + 1, ls, .inl (w32 a) :: r, g)
    | _ => none
  | .dup => match st with
    | v :: r => if cat v = 1 then some (pc + 1, ls, v :: v :: r, g) else none
    | _ => none
  | .pop => match st with
    | v :: r => if cat v = 1 then some (pc + 1, ls, r, g) else none
    | _ => none
  | .dup_x1 => match st with
    | v :: w :: r => if cat v = 1 ∧ cat w = 1 then some (pc + 1, ls, v :: w :: v :: r, g) else none
    | _ => none
  | .dup2 => match st with
    | v :: w :: r => if cat v = 1 ∧ cat w = 1 then some (pc + 1, ls, v :: w :: v :: w :: r, g) else none
    | _ => none
  | .goto off => jmp pc off ls st g
  | .ifCond c off => match st with
    | .inl a :: r => br pc off (cnd c a 0) ls r g
    | _ => none
  | .if_icmp c off => match st with
    | .inl b :: .inl a :: r => br pc off (cnd c a b) ls r g
    | _ => none
  | .tableswitch d lo hi offs => match st with
    | .inl a :: r => if a < lo ∨ hi < a then jmp pc d ls r g else match offs[(a - lo).toNat]? with
      | some off => jmp pc off ls r g
      | none => none
    | _ => none
  | .getfield k => match st with
    | .inr (.inr (.inl a)) :: r => match fTab ow k with
      | some (_, ci, s) => if cK a = ci then
          (match fTy ci s with
          | 0 => some (pc + 3, ls, .inl (g a s) :: r, g)
          | 1 => some (pc + 3, ls, .inr (.inl (g a s)) :: r, g)
          | _ => some (pc + 3, ls, .inr (.inr (.inl (cRef a s))) :: r, g)) else none
      | none => none
    | _ => none
  | .putfield k => match st with
    | .inl x :: .inr (.inr (.inl a)) :: r => match fTab ow k with
      | some (0, ci, s) => if cK a = ci ∧ fTy ci s = 0 then some (pc + 3, ls, r, up g a s x) else none
      | _ => none
    | .inr (.inl x) :: .inr (.inr (.inl a)) :: r => match fTab ow k with
      | some (0, ci, s) => if cK a = ci ∧ fTy ci s = 1 then some (pc + 3, ls, r, up g a s x) else none
      | _ => none
    | _ => none
  | .getstatic k => if ow = 8 ∧ k = 46 then some (pc + 3, ls, .inr (.inr (.inl 210)) :: st, g) else none
  | .arraylength => match st with
    | .inr (.inr (.inl a)) :: r => if isIA a ∨ cK a = 101 then some (pc + 1, ls, .inl (aLen a g) :: r, g) else none
    | _ => none
  | .iaload => match st with
    | .inl i :: .inr (.inr (.inl a)) :: r => if isIA a ∧ 0 ≤ i ∧ i < aLen a g then some (pc + 1, ls, .inl (g a i.toNat) :: r, g) else none
    | _ => none
  | .iastore => match st with
    | .inl x :: .inl i :: .inr (.inr (.inl a)) :: r => if cK a = 100 ∧ 0 ≤ i ∧ i < cLn a then some (pc + 1, ls, r, up g a i.toNat x) else none
    | _ => none
  | .laload => match st with
    | .inl i :: .inr (.inr (.inl a)) :: r => if cK a = 101 ∧ 0 ≤ i ∧ i < cLn a then some (pc + 1, ls, .inr (.inl (g a i.toNat)) :: r, g) else none
    | _ => none
  | .lastore => match st with
    | .inr (.inl x) :: .inl i :: .inr (.inr (.inl a)) :: r => if cK a = 101 ∧ 0 ≤ i ∧ i < cLn a then some (pc + 1, ls, r, up g a i.toNat x) else none
    | _ => none
  | .baload => match st with
    | .inl i :: .inr (.inr (.inl a)) :: r => if cK a = 102 ∧ 0 ≤ i ∧ i < cLn a then some (pc + 1, ls, .inl (g a i.toNat) :: r, g) else none
    | _ => none
  | .bastore => match st with
    | .inl x :: .inl i :: .inr (.inr (.inl a)) :: r => if cK a = 102 ∧ 0 ≤ i ∧ i < cLn a ∧ (x = 0 ∨ x = 1) then some (pc + 1, ls, r, up g a i.toNat x) else none
    | _ => none
  | .aaload => match st with
    | .inl i :: .inr (.inr (.inl a)) :: r => if (cK a = 103 ∨ cK a = 104) ∧ 0 ≤ i ∧ i < cLn a then some (pc + 1, ls, .inr (.inr (.inl (cRef a i.toNat))) :: r, g) else none
    | _ => none
  | .invokestatic k => match cTab ow k with
    | some (6, _) => match st with
      | .inl n :: .inl dp :: .inr (.inr (.inl d)) :: .inl sp :: .inr (.inr (.inl s)) :: r =>
        if (cK s = 100 ∧ cK d = 100) ∧ (0 ≤ sp ∧ 0 ≤ dp ∧ 0 ≤ n) ∧ sp + n ≤ cLn s ∧ dp + n ≤ cLn d ∧ (r.map cat).sum ≤ 8 then some (pc + 3, ls, r, cpy g s sp.toNat d dp.toNat n.toNat) else none
      | _ => none
    | _ => none
  | .invokevirtual k => match cTab ow k with
    | some (7, _) => match st with
      | .inr (.inr (.inl a)) :: r => if 200 ≤ a ∧ a < 205 ∧ (r.map cat).sum ≤ 8 then some (pc + 3, ls, .inl ((sTxt a).length : Nat) :: r, g) else none
      | _ => none
    | some (8, _) => match st with
      | .inl i :: .inr (.inr (.inl a)) :: r => if 200 ≤ a ∧ a < 205 ∧ 0 ≤ i ∧ i < (sTxt a).length ∧ (r.map cat).sum ≤ 8 then some (pc + 3, ls, .inl ((sTxt a).getD i.toNat 0) :: r, g) else none
      | _ => none
    | _ => none
  | _ => none
/-- a return: what it answers -/
def rx (ret : Option FieldType) (st : List SV) (ins : ClassFile.Instr) : Option (Option SV) := match ins with
  | .return_ => if ret = none ∧ st = [] then some none else none
  | .ireturn => match st with
    | [.inl x] => if ret = some .int ∨ (ret = some .boolean ∧ (x = 0 ∨ x = 1)) then some (some (.inl x)) else none
    | _ => none
  | .lreturn => match st with
    | [.inr (.inl x)] => if ret = some .long then some (some (.inr (.inl x))) else none
    | _ => none
  | _ => none
def mkA1 (v : SV) : List SV := match v with
  | .inl x => [.inl x]
  | .inr (.inl x) => [.inr (.inl x), vU]
  | .inr (.inr x) => [.inr (.inr x)]
def mkA (a : List SV) : List SV := a.flatMap mkA1
theorem mkA_cons (v : SV) (a : List SV) : mkA (v :: a) = mkA1 v ++ mkA a := by simp [mkA]
def mkL (n : Nat) (a : List SV) : List SV := mkA a ++ List.replicate (n - (mkA a).length) vU
/-- how deep a method goes: its own number; rowsOf's by what is left -/
def rkA (q : MI) (a : List SV) : Nat := if q.2.2.1 = 99 then (match a with
  | _ :: .inl x :: _ => 20 + x.toNat
  | _ => 0) else q.2.2.1
/-- a call: the method, its depth, its arguments, what is left of the stack -/
def cGo (d : Nat) (q : MI) (a r : List SV) : Option (MI × Nat × List SV × List SV) := if (8 ≤ rkA q a ∧ rkA q a < d) ∧ (mkA a).length ≤ q.2.1 ∧ (r.map cat).sum ≤ 8 then some (q, rkA q a, a, r) else none
def cx (d ow : Nat) (st : List SV) (ins : ClassFile.Instr) : Option (MI × Nat × List SV × List SV) := match ins with
  | .invokestatic k => match cTab ow k with
    | some (kd, n) => if kd = 2 ∨ kd = 3 then (match sTab ow k 99 with
      | some (kd', n', q) => if (kd' = kd ∧ n' = n) ∧ n ≤ st.length then cGo d q (st.take n).reverse (st.drop n) else none
      | none => none) else none
    | none => none
  | .invokevirtual k => match cTab ow k with
    | some (kd, n) => if kd = 0 ∨ kd = 4 then (match st[n]? with
      | some (.inr (.inr (.inl a))) => match sTab ow k (cK a) with
        | some (kd', n', q) => if kd' = kd ∧ n' = n then cGo d q (.inr (.inr (.inl a)) :: (st.take n).reverse) (st.drop (n + 1)) else none
        | none => none
      | _ => none) else none
    | none => none
  | .invokespecial k => match cTab ow k with
    | some (kd, n) => if kd = 5 then (match st[n]? with
      | some (.inr (.inr (.inl a))) => match sTab ow k 0 with
        | some (kd', n', q) => if (kd' = kd ∧ n' = n) ∧ cK a = ow then cGo d q (.inr (.inr (.inl a)) :: (st.take n).reverse) (st.drop (n + 1)) else none
        | none => none
      | _ => none) else none
    | none => none
  | _ => none
/-- how long an instruction is -/
def lnOk (ins : ClassFile.Instr) (len : Nat) : Bool := match ins with
  | .bipush _ => len == 2
  | .ldc _ => len == 2
  | .iload _ => len == 2
  | .lload _ => len == 2
  | .aload _ => len == 2
  | .istore _ => len == 2
  | .lstore _ => len == 2
  | .sipush _ => len == 3
  | .ldc_w _ => len == 3
  | .ldc2_w _ => len == 3
  | .iinc _ _ => len == 3
  | .goto _ => len == 3
  | .ifCond _ _ => len == 3
  | .if_icmp _ _ => len == 3
  | .getfield _ => len == 3
  | .putfield _ => len == 3
  | .getstatic _ => len == 3
  | .invokestatic _ => len == 3
  | .invokevirtual _ => len == 3
  | .invokespecial _ => len == 3
  | .tableswitch _ _ _ _ => true
  | _ => len == 1
def shRun : Nat → Nat → MI → Nat → List SV → List SV → Hp → Option (Option SV × Hp)
  | 0, _, _, _, _, _, _ => none
  | n + 1, d, q, pc, ls, st, g => match decode q.2.2.2.1 pc with
    | .error _ => none
    | .ok (ins, len) => if lnOk ins len = true then (match rx q.2.2.2.2.2 st ins with
      | some r => some (r, g)
      | none => match cx d q.1 st ins with
        | some (q', d', a, r) => (shRun n d' q' 0 (mkL q'.2.1 a) [] g).bind (fun z => shRun n d q (pc + 3) ls (z.1.toList ++ r) z.2)
        | none => (sx q.1 pc ls st g ins).bind (fun z => shRun n d q z.1 z.2.1 z.2.2.1 z.2.2.2)) else none
theorem shRun_mono1 {n : Nat} (ih : ∀ (d : Nat) (q : MI) (pc : Nat) (ls st : List SV) (g : Hp) (r : Option SV × Hp), shRun n d q pc ls st g = some r → shRun (n + 1) d q pc ls st g = some r) {d : Nat} {q : MI} {pc : Nat} {ls st : List SV} {g : Hp} {r : Option SV × Hp} {ins : ClassFile.Instr}
    (h : (match rx q.2.2.2.2.2 st ins with
      | some r => some (r, g)
      | none => match cx d q.1 st ins with
        | some (q', d', a, r) => (shRun n d' q' 0 (mkL q'.2.1 a) [] g).bind (fun z => shRun n d q (pc + 3) ls (z.1.toList ++ r) z.2)
        | none => (sx q.1 pc ls st g ins).bind (fun z => shRun n d q z.1 z.2.1 z.2.2.1 z.2.2.2)) = some r) :
    (match rx q.2.2.2.2.2 st ins with
      | some r => some (r, g)
      | none => match cx d q.1 st ins with
        | some (q', d', a, r) => (shRun (n + 1) d' q' 0 (mkL q'.2.1 a) [] g).bind (fun z => shRun (n + 1) d q (pc + 3) ls (z.1.toList ++ r) z.2)
        | none => (sx q.1 pc ls st g ins).bind (fun z => shRun (n + 1) d q z.1 z.2.1 z.2.2.1 z.2.2.2)) = some r := by
  cases hr : rx q.2.2.2.2.2 st ins with
  | some v => rw [hr] at h; simpa using h
  | none =>
    rw [hr] at h
    simp only at h ⊢
    cases hc : cx d q.1 st ins with
    | some z =>
      obtain ⟨q', d', a, r'⟩ := z
      rw [hc] at h
      simp only at h ⊢
      cases h1 : shRun n d' q' 0 (mkL q'.2.1 a) [] g with
      | none => rw [h1] at h; simp at h
      | some z1 =>
        rw [h1] at h
        rw [ih _ _ _ _ _ _ _ h1]
        simp only [Option.bind_some] at h ⊢
        exact ih _ _ _ _ _ _ _ h
    | none =>
      rw [hc] at h
      simp only at h ⊢
      cases h1 : sx q.1 pc ls st g ins with
      | none => rw [h1] at h; simp at h
      | some z1 =>
        rw [h1] at h
        simp only [Option.bind_some] at h ⊢
        exact ih _ _ _ _ _ _ _ h
theorem shRun_mono : ∀ (n : Nat) (d : Nat) (q : MI) (pc : Nat) (ls st : List SV) (g : Hp) (r : Option SV × Hp), shRun n d q pc ls st g = some r → shRun (n + 1) d q pc ls st g = some r := by
  intro n
  induction n with
  | zero => intro d q pc ls st g r h; simp [shRun] at h
  | succ n ih =>
    intro d q pc ls st g r h
    rw [shRun] at h ⊢
    cases hd : decode q.2.2.2.1 pc with
    | error e => rw [hd] at h; simp at h
    | ok z =>
      obtain ⟨ins, len⟩ := z
      rw [hd] at h
      simp only at h ⊢
      by_cases hln : lnOk ins len = true
      · rw [if_pos hln] at h ⊢
        exact shRun_mono1 ih h
      · rw [if_neg hln] at h
        cases h
theorem shRun_mono' {n m : Nat} (hnm : n ≤ m) {d : Nat} {q : MI} {pc : Nat} {ls st : List SV} {g : Hp} {r : Option SV × Hp} (h : shRun n d q pc ls st g = some r) : shRun m d q pc ls st g = some r := by
  induction hnm with
  | refl => exact h
  | step _ ih => exact shRun_mono _ _ _ _ _ _ _ _ ih
theorem shRun_det {n m : Nat} {d : Nat} {q : MI} {pc : Nat} {ls st : List SV} {g : Hp} {r r' : Option SV × Hp} (h : shRun n d q pc ls st g = some r) (h' : shRun m d q pc ls st g = some r') : r = r' := by
  have h1 := shRun_mono' (Nat.le_max_left n m) h
  have h2 := shRun_mono' (Nat.le_max_right n m) h'
  exact Option.some.inj (h1.symm.trans h2)
/-- what a frame comes to, if it comes to an end -/
noncomputable def EV (d : Nat) (q : MI) (pc : Nat) (ls st : List SV) (g : Hp) : Option (Option SV × Hp) :=
  @dite _ (∃ r n, shRun n d q pc ls st g = some r) (Classical.propDecidable _) (fun h => some (Classical.choose h)) (fun _ => none)
theorem EV_iff {d : Nat} {q : MI} {pc : Nat} {ls st : List SV} {g : Hp} {r : Option SV × Hp} : EV d q pc ls st g = some r ↔ ∃ n, shRun n d q pc ls st g = some r := by
  unfold EV
  constructor
  · intro h
    by_cases hx : ∃ r n, shRun n d q pc ls st g = some r
    · rw [dif_pos hx] at h
      obtain ⟨n, hn⟩ := Classical.choose_spec hx
      cases Option.some.inj h
      exact ⟨n, hn⟩
    · rw [dif_neg hx] at h
      cases h
  · rintro ⟨n, hn⟩
    have hx : ∃ r n, shRun n d q pc ls st g = some r := ⟨r, n, hn⟩
    rw [dif_pos hx]
    obtain ⟨m, hm⟩ := Classical.choose_spec hx
    rw [shRun_det hn hm]
theorem EV_ext {d d' : Nat} {q q' : MI} {pc pc' : Nat} {ls st ls' st' : List SV} {g g' : Hp} (h : ∀ r, EV d q pc ls st g = some r ↔ EV d' q' pc' ls' st' g' = some r) : EV d q pc ls st g = EV d' q' pc' ls' st' g' := by
  cases h1 : EV d' q' pc' ls' st' g' with
  | some r => exact (h r).mpr h1
  | none =>
    cases h2 : EV d q pc ls st g with
    | none => rfl
    | some r => rw [(h r).mp h2] at h1; cases h1
theorem shRun_succ (n d : Nat) (q : MI) (pc : Nat) (ls st : List SV) (g : Hp) {ins : ClassFile.Instr} {len : Nat} (hd : decode q.2.2.2.1 pc = .ok (ins, len)) (hl : lnOk ins len = true) : shRun (n + 1) d q pc ls st g = match rx q.2.2.2.2.2 st ins with
      | some r => some (r, g)
      | none => match cx d q.1 st ins with
        | some (q', d', a, r) => (shRun n d' q' 0 (mkL q'.2.1 a) [] g).bind (fun z => shRun n d q (pc + 3) ls (z.1.toList ++ r) z.2)
        | none => (sx q.1 pc ls st g ins).bind (fun z => shRun n d q z.1 z.2.1 z.2.2.1 z.2.2.2) := by
  rw [shRun, hd]
  simp only [hl, if_true]
theorem ev_sx {d : Nat} {q : MI} {pc : Nat} {ls st : List SV} {g : Hp} {ins : ClassFile.Instr} {len : Nat} {pc' : Nat} {ls' st' : List SV} {g' : Hp} (hd : decode q.2.2.2.1 pc = .ok (ins, len)) (hl : lnOk ins len = true) (hr : rx q.2.2.2.2.2 st ins = none) (hc : cx d q.1 st ins = none) (hs : sx q.1 pc ls st g ins = some (pc', ls', st', g')) : EV d q pc ls st g = EV d q pc' ls' st' g' := by
  refine EV_ext fun r => ?_
  rw [EV_iff, EV_iff]
  constructor
  · rintro ⟨n, hn⟩
    cases n with
    | zero => simp [shRun] at hn
    | succ n =>
      rw [shRun_succ _ _ _ _ _ _ _ hd hl, hr, hc, hs] at hn
      exact ⟨n, hn⟩
  · rintro ⟨n, hn⟩
    refine ⟨n + 1, ?_⟩
    rw [shRun_succ _ _ _ _ _ _ _ hd hl, hr, hc, hs]
    exact hn
theorem ev_ret {d : Nat} {q : MI} {pc : Nat} {ls st : List SV} {g : Hp} {ins : ClassFile.Instr} {len : Nat} {r : Option SV} (hd : decode q.2.2.2.1 pc = .ok (ins, len)) (hl : lnOk ins len = true) (hr : rx q.2.2.2.2.2 st ins = some r) : EV d q pc ls st g = some (r, g) := by
  rw [EV_iff]
  refine ⟨1, ?_⟩
  rw [shRun_succ _ _ _ _ _ _ _ hd hl, hr]
theorem ev_call {d : Nat} {q : MI} {pc : Nat} {ls st : List SV} {g : Hp} {ins : ClassFile.Instr} {len : Nat} {q' : MI} {d' : Nat} {a r : List SV} (hd : decode q.2.2.2.1 pc = .ok (ins, len)) (hl : lnOk ins len = true) (hr : rx q.2.2.2.2.2 st ins = none) (hc : cx d q.1 st ins = some (q', d', a, r)) : EV d q pc ls st g = (EV d' q' 0 (mkL q'.2.1 a) [] g).bind (fun z => EV d q (pc + 3) ls (z.1.toList ++ r) z.2) := by
  cases h1 : EV d' q' 0 (mkL q'.2.1 a) [] g with
  | none =>
    show EV d q pc ls st g = none
    cases h2 : EV d q pc ls st g with
    | none => rfl
    | some x =>
      obtain ⟨n, hn⟩ := EV_iff.mp h2
      cases n with
      | zero => simp [shRun] at hn
      | succ n =>
        rw [shRun_succ _ _ _ _ _ _ _ hd hl, hr, hc] at hn
        simp only at hn
        cases h3 : shRun n d' q' 0 (mkL q'.2.1 a) [] g with
        | none => rw [h3] at hn; simp at hn
        | some z => rw [EV_iff.mpr ⟨n, h3⟩] at h1; cases h1
  | some z =>
    rw [Option.bind_some]
    refine EV_ext fun x => ?_
    obtain ⟨n0, hn0⟩ := EV_iff.mp h1
    rw [EV_iff, EV_iff]
    constructor
    · rintro ⟨n, hn⟩
      cases n with
      | zero => simp [shRun] at hn
      | succ n =>
        rw [shRun_succ _ _ _ _ _ _ _ hd hl, hr, hc] at hn
        simp only at hn
        cases h3 : shRun n d' q' 0 (mkL q'.2.1 a) [] g with
        | none => rw [h3] at hn; simp at hn
        | some z' =>
          rw [h3, Option.bind_some] at hn
          have := shRun_det h3 hn0
          subst this
          exact ⟨n, hn⟩
    · rintro ⟨n, hn⟩
      refine ⟨max n0 n + 1, ?_⟩
      rw [shRun_succ _ _ _ _ _ _ _ hd hl, hr, hc]
      simp only
      rw [shRun_mono' (Nat.le_max_left n0 n) hn0, Option.bind_some]
      exact shRun_mono' (Nat.le_max_right n0 n) hn
end
section
/-! what the tables of part 03 rest on: the Statement's words -/
def lw_good : List Cond := lw_tbl.filter goodWord
theorem good_of {w : Cond} {i : Nat} (h : lw_tbl[i]? = some w) (hg : goodWord w = true) : w ∈ lw_good := List.mem_filter.mpr ⟨List.mem_of_getElem? h, hg⟩
def clN (ci : Nat) : vw_C := vwCl.getD ci ("", TX0, 0)
/-- a field's word -/
def fWord (q : Nat × Nat × Nat × Nat × Nat × Nat) : Cond := if q.2.2.1 = 0 then .fieldLink (oNm q.1) q.2.1 (clN q.2.2.2.1).1 ((clN q.2.2.2.1).2.1 q.2.2.2.2.1).2.1 ((clN q.2.2.2.1).2.1 q.2.2.2.2.1).2.2.1 else .fieldLinkNest (oNm q.1) q.2.1 (clN q.2.2.2.1).1 ((clN q.2.2.2.1).2.1 q.2.2.2.2.1).2.1 ((clN q.2.2.2.1).2.1 q.2.2.2.2.1).2.2.1 RX11
def fTyp (t : Nat) : FieldType := match t with
  | 0 => .int
  | _ => .long
def fChk (q : Nat × Nat × Nat × Nat × Nat × Nat) : Bool :=
  decide (lw_tbl[q.2.2.2.2.2]? = some (fWord q)) && decide (q.2.2.2.1 < 13) && decide (q.2.2.2.2.1 < (clN q.2.2.2.1).2.2) && decide (((clN q.2.2.2.1).2.1 q.2.2.2.2.1).1 = (clN q.2.2.2.1).1) && decide ((clN q.2.2.2.1).2.2 = fNm q.2.2.2.1)
    && (decide (fTy q.2.2.2.1 q.2.2.2.2.1 = 3) || (decide (parseFieldDescriptor ((clN q.2.2.2.1).2.1 q.2.2.2.2.1).2.2.1 = some (fTyp (fTy q.2.2.2.1 q.2.2.2.2.1))) && decide (((clN q.2.2.2.1).2.1 q.2.2.2.2.1).2.2.2 = false) && decide (fTy q.2.2.2.1 q.2.2.2.2.1 < 2)))
    && (decide (q.2.2.1 = 0 ∧ goodWord (fWord q) = true) || decide (q.2.2.1 = 1 ∧ fWord q ∈ nestW))
set_option maxRecDepth 100000 in
theorem fTb_ok : fTb.all fChk = true := by decide +kernel
theorem clN_get {ci : Nat} (h : ci < 13) : vwCl[ci]? = some (clN ci) := by
  have : ci < vwCl.length := h
  simp [clN, List.getD, List.getElem?_eq_getElem this]
theorem fTab_facts {ow k nst ci sl : Nat} (h : fTab ow k = some (nst, ci, sl)) : vwCl[ci]? = some (clN ci) ∧ sl < (clN ci).2.2 ∧ ((clN ci).2.1 sl).1 = (clN ci).1 ∧ (clN ci).2.2 = fNm ci ∧ (fTy ci sl = 3 ∨ (parseFieldDescriptor ((clN ci).2.1 sl).2.2.1 = some (fTyp (fTy ci sl)) ∧ ((clN ci).2.1 sl).2.2.2 = false ∧ fTy ci sl < 2)) ∧
    ((nst = 0 ∧ Cond.fieldLink (oNm ow) k (clN ci).1 ((clN ci).2.1 sl).2.1 ((clN ci).2.1 sl).2.2.1 ∈ lw_good) ∨ (nst = 1 ∧ Cond.fieldLinkNest (oNm ow) k (clN ci).1 ((clN ci).2.1 sl).2.1 ((clN ci).2.1 sl).2.2.1 RX11 ∈ nestW)) := by
  unfold fTab at h
  cases hf : fTb.find? (fun q => q.1 == ow && q.2.1 == k) with
  | none => rw [hf] at h; cases h
  | some q =>
    rw [hf] at h
    obtain ⟨a, b, n, c, s, ix⟩ := q
    have hp := List.find?_some hf
    have hm := List.mem_of_find?_eq_some hf
    have hc := List.all_eq_true.mp fTb_ok _ hm
    simp only [Option.map_some, Option.some.injEq, Prod.mk.injEq] at h
    obtain ⟨rfl, rfl, rfl⟩ := h
    simp only [Bool.and_eq_true, beq_iff_eq] at hp
    obtain ⟨rfl, rfl⟩ := hp
    simp only [fChk, Bool.and_eq_true, Bool.or_eq_true, decide_eq_true_eq] at hc
    obtain ⟨⟨⟨⟨⟨⟨h1, h2⟩, h3⟩, h4⟩, h5⟩, h6⟩, h7⟩ := hc
    refine ⟨clN_get h2, h3, h4, h5, ?_, ?_⟩
    · rcases h6 with h6 | ⟨⟨h6, h6b⟩, h6c⟩
      · exact Or.inl h6
      · exact Or.inr ⟨h6, h6b, h6c⟩
    · rcases h7 with ⟨h7, h8⟩ | ⟨h7, h8⟩
      · left
        subst h7
        exact ⟨rfl, good_of h1 h8⟩
      · right
        subst h7
        exact ⟨rfl, h8⟩
def pMH (y : MethodName) : Bool := decide (y.cls ≠ "java/lang/invoke/MethodHandle") && decide (y.cls ≠ "java/lang/invoke/VarHandle")
def xNm (y : MethodName) : MethodName := ⟨RX7, y.name, y.desc⟩
def xCd (y : MethodName) : Cond := if y.name = "loadBy" then .code (xNm y) cX7_loadBy 2 (some .int) else if y.name = "mayRise" then .code (xNm y) cX7_mayRise 1 (some .boolean) else .code (xNm y) cX7_mayFall 1 (some .boolean)
/-- the words of a call -/
def cWs (ow k C kd : Nat) (q : MI) : List Cond := match kd with
  | 0 => [.methodLink (oNm ow) k q.2.2.2.2.1, .instanceMethod q.2.2.2.2.1, .selects (oNm C) q.2.2.2.2.1 q.2.2.2.2.1, .initialized q.2.2.2.2.1.cls, .code q.2.2.2.2.1 q.2.2.2.1 q.2.1 q.2.2.2.2.2]
  | 4 => [.methodLink (oNm ow) k (xNm q.2.2.2.2.1), .sameMethod RX7 RX7 q.2.2.2.2.1.name q.2.2.2.2.1.desc, .instanceMethod (xNm q.2.2.2.2.1), .selects (oNm C) (xNm q.2.2.2.2.1) q.2.2.2.2.1, .instanceMethod q.2.2.2.2.1, .initialized q.2.2.2.2.1.cls, xCd q.2.2.2.2.1, .code q.2.2.2.2.1 q.2.2.2.1 q.2.1 q.2.2.2.2.2]
  | 2 => [.methodLink (oNm ow) k q.2.2.2.2.1, .static q.2.2.2.2.1, .initialized q.2.2.2.2.1.cls, .code q.2.2.2.2.1 q.2.2.2.1 q.2.1 q.2.2.2.2.2]
  | 3 => [.static q.2.2.2.2.1, .initialized q.2.2.2.2.1.cls, .code q.2.2.2.2.1 q.2.2.2.1 q.2.1 q.2.2.2.2.2]
  | 5 => [.methodLink (oNm ow) k q.2.2.2.2.1, .sameMethod q.2.2.2.2.1.cls q.2.2.2.2.1.cls q.2.2.2.2.1.name q.2.2.2.2.1.desc, .superclass (oNm ow) q.2.2.2.2.1.cls, .instanceMethod q.2.2.2.2.1, .initialized q.2.2.2.2.1.cls, .code q.2.2.2.2.1 q.2.2.2.1 q.2.1 q.2.2.2.2.2]
  | _ => []
theorem gd0 {w : Cond} (i : Nat) (h : (k2_sels lw_privs)[i]? = some w) (hg : goodWord w = true) : w ∈ lw_good := List.mem_filter.mpr ⟨List.mem_append_left _ (List.mem_of_getElem? h), hg⟩
theorem gd1 {w : Cond} (i : Nat) (h : tables_1_1[i]? = some w) (hg : goodWord w = true) : w ∈ lw_good := List.mem_filter.mpr ⟨List.mem_append_right _ (List.mem_append_left _ (List.mem_of_getElem? h)), hg⟩
theorem gd2 {w : Cond} (i : Nat) (h : tables_1_2[i]? = some w) (hg : goodWord w = true) : w ∈ lw_good := List.mem_filter.mpr ⟨List.mem_append_right _ (List.mem_append_right _ (List.mem_append_left _ (List.mem_of_getElem? h))), hg⟩
theorem gd3 {w : Cond} (i : Nat) (h : tables_1_3[i]? = some w) (hg : goodWord w = true) : w ∈ lw_good := List.mem_filter.mpr ⟨List.mem_append_right _ (List.mem_append_right _ (List.mem_append_right _ (List.mem_append_left _ (List.mem_of_getElem? h)))), hg⟩
theorem gd4 {w : Cond} (i : Nat) (h : tables_1_4[i]? = some w) (hg : goodWord w = true) : w ∈ lw_good := List.mem_filter.mpr ⟨List.mem_append_right _ (List.mem_append_right _ (List.mem_append_right _ (List.mem_append_right _ (List.mem_append_left _ (List.mem_of_getElem? h))))), hg⟩
theorem gd5 {w : Cond} (i : Nat) (h : tables_1_5[i]? = some w) (hg : goodWord w = true) : w ∈ lw_good := List.mem_filter.mpr ⟨List.mem_append_right _ (List.mem_append_right _ (List.mem_append_right _ (List.mem_append_right _ (List.mem_append_right _ (List.mem_of_getElem? h))))), hg⟩
theorem fw3 {G : List Cond} {a b c : Cond} (h1 : a ∈ G) (h2 : b ∈ G) (h3 : c ∈ G) : ∀ w ∈ [a, b, c], w ∈ G := fun w hw => by
  simp only [List.mem_cons, List.not_mem_nil, or_false] at hw
  rcases hw with rfl | rfl | rfl <;> assumption
theorem fw4 {G : List Cond} {a b c d : Cond} (h1 : a ∈ G) (h2 : b ∈ G) (h3 : c ∈ G) (h4 : d ∈ G) : ∀ w ∈ [a, b, c, d], w ∈ G := fun w hw => by
  simp only [List.mem_cons, List.not_mem_nil, or_false] at hw
  rcases hw with rfl | rfl | rfl | rfl <;> assumption
theorem fw5 {G : List Cond} {a b c d e : Cond} (h1 : a ∈ G) (h2 : b ∈ G) (h3 : c ∈ G) (h4 : d ∈ G) (h5 : e ∈ G) : ∀ w ∈ [a, b, c, d, e], w ∈ G := fun w hw => by
  simp only [List.mem_cons, List.not_mem_nil, or_false] at hw
  rcases hw with rfl | rfl | rfl | rfl | rfl <;> assumption
theorem fw6 {G : List Cond} {a b c d e f : Cond} (h1 : a ∈ G) (h2 : b ∈ G) (h3 : c ∈ G) (h4 : d ∈ G) (h5 : e ∈ G) (h6 : f ∈ G) : ∀ w ∈ [a, b, c, d, e, f], w ∈ G := fun w hw => by
  simp only [List.mem_cons, List.not_mem_nil, or_false] at hw
  rcases hw with rfl | rfl | rfl | rfl | rfl | rfl <;> assumption
theorem fw8 {G : List Cond} {a b c d e f g i : Cond} (h1 : a ∈ G) (h2 : b ∈ G) (h3 : c ∈ G) (h4 : d ∈ G) (h5 : e ∈ G) (h6 : f ∈ G) (h7 : g ∈ G) (h8 : i ∈ G) : ∀ w ∈ [a, b, c, d, e, f, g, i], w ∈ G := fun w hw => by
  simp only [List.mem_cons, List.not_mem_nil, or_false] at hw
  rcases hw with rfl | rfl | rfl | rfl | rfl | rfl | rfl | rfl <;> assumption
def SF (ow k C kd n : Nat) (q : MI) : Prop := (∀ w ∈ cWs ow k C kd q, w ∈ lw_good) ∧ (q.2.2.2.2.1.cls ≠ "java/lang/invoke/MethodHandle" ∧ q.2.2.2.2.1.cls ≠ "java/lang/invoke/VarHandle") ∧ (parseMethodDescriptor q.2.2.2.2.1.desc).map (fun d => d.parameters.length) = some n ∧ oNm q.1 = q.2.2.2.2.1.cls ∧ plainFor q.2.2.2.2.1 = true ∧ q.2.1 ≤ 20 ∧ q.2.2.2.2.1.name ≠ "<init>" ∧ (kd = 0 → oNm C = q.2.2.2.2.1.cls ∧ C < 13 ∧ oNm C = (clN C).1) ∧ (kd = 4 → C < 13 ∧ oNm C = (clN C).1) ∧ (kd = 3 → Cond.methodLinkNest (oNm ow) k q.2.2.2.2.1 RX11 ∈ nestW) ∧ (kd = 5 → ow < 13 ∧ oNm ow = (clN ow).1)
def SFe (e : Nat × Nat × Nat × Nat × Nat × MI) : Prop := SF e.1 e.2.1 e.2.2.1 e.2.2.2.1 e.2.2.2.2.1 e.2.2.2.2.2
theorem wNum : Cond.fieldLink RX8 46 RX8 "NUMBERS" "[I" ∈ lw_good := gd2 214 rfl rfl
theorem wAc_2_84 : Cond.methodLink RX2 84 arraycopyName ∈ lw_good := gd2 229 rfl rfl
theorem wAc_6_19 : Cond.methodLink RX6 19 arraycopyName ∈ lw_good := gd2 236 rfl rfl
theorem wAcN : Cond.native arraycopyName ∈ lw_good := gd2 231 rfl rfl
theorem wAcS : Cond.static arraycopyName ∈ lw_good := gd2 230 rfl rfl
theorem wAcI : Cond.initialized "java/lang/System" ∈ lw_good := gd1 18 rfl rfl
theorem ac_which : cTb.all (fun q => decide (q.2.2.1 = 6 → (q.1 = 2 ∧ q.2.1 = 84) ∨ (q.1 = 6 ∧ q.2.1 = 19))) = true := by decide +kernel
theorem ac_link {ow k n : Nat} (h : cTab ow k = some (6, n)) : Cond.methodLink (oNm ow) k arraycopyName ∈ lw_good := by
  unfold cTab at h
  cases hf : cTb.find? (fun q => q.1 == ow && q.2.1 == k) with
  | none => rw [hf] at h; cases h
  | some e =>
    rw [hf] at h
    obtain ⟨a, b, kd', n'⟩ := e
    have hp := List.find?_some hf
    have hk := List.all_eq_true.mp ac_which _ (List.mem_of_find?_eq_some hf)
    simp only [Option.map_some, Option.some.injEq, Prod.mk.injEq] at h
    obtain ⟨rfl, rfl⟩ := h
    simp only [Bool.and_eq_true, beq_iff_eq] at hp
    obtain ⟨rfl, rfl⟩ := hp
    simp only [decide_eq_true_eq] at hk
    rcases hk trivial with ⟨rfl, rfl⟩ | ⟨rfl, rfl⟩
    · exact wAc_2_84
    · exact wAc_6_19
theorem wd_0 : Cond.selects RX11 yX11_counted yX11_counted ∈ lw_good := gd0 0 rfl rfl
theorem wd_1 : Cond.selects RX2 yX2_isTied yX2_isTied ∈ lw_good := gd0 1 rfl rfl
theorem wd_2 : Cond.selects RX10 yX10_takeWord yX10_takeWord ∈ lw_good := gd0 2 rfl rfl
theorem wd_3 : Cond.selects RX10 yX10_itemOfWord yX10_itemOfWord ∈ lw_good := gd0 3 rfl rfl
theorem wd_4 : Cond.selects RX10 yX10_isWord yX10_isWord ∈ lw_good := gd0 4 rfl rfl
theorem wd_5 : Cond.selects RX10 yX10_takeNumber yX10_takeNumber ∈ lw_good := gd0 5 rfl rfl
theorem wd_6 : Cond.selects RX8 yX8_readItem yX8_readItem ∈ lw_good := gd0 6 rfl rfl
theorem wd_7 : Cond.selects RX8 yX8_tell yX8_tell ∈ lw_good := gd0 7 rfl rfl
theorem wd_8 : Cond.selects RX2 yX2_isDown yX2_isDown ∈ lw_good := gd0 8 rfl rfl
theorem wd_9 : Cond.selects RX2 yX2_joins yX2_joins ∈ lw_good := gd0 9 rfl rfl
theorem wd_10 : Cond.selects RX2 yX2_tip yX2_tip ∈ lw_good := gd0 10 rfl rfl
theorem wd_11 : Cond.selects RX11 yX11_stepsNow yX11_stepsNow ∈ lw_good := gd0 11 rfl rfl
theorem wd_12 : Cond.selects RX9 yX9_begin yX9_begin ∈ lw_good := gd0 12 rfl rfl
theorem wd_13 : Cond.selects RX9 yX9_note yX9_note ∈ lw_good := gd0 13 rfl rfl
theorem wd_14 : Cond.selects RX9 yX9_stateAt yX9_stateAt ∈ lw_good := gd0 14 rfl rfl
theorem wd_15 : Cond.selects RX9 yX9_goOn yX9_goOn ∈ lw_good := gd0 15 rfl rfl
theorem wd_16 : Cond.selects RX9 yX9_before yX9_before ∈ lw_good := gd0 16 rfl rfl
theorem wd_17 : Cond.selects RX11 yX11_lyingsNow yX11_lyingsNow ∈ lw_good := gd0 17 rfl rfl
theorem wd_18 : Cond.selects RX12 yX12_addBridge yX12_addBridge ∈ lw_good := gd0 18 rfl rfl
theorem wd_19 : Cond.selects RX12 yX12_met yX12_met ∈ lw_good := gd0 19 rfl rfl
theorem wd_20 : Cond.selects RX12 yX12_addChain yX12_addChain ∈ lw_good := gd0 20 rfl rfl
theorem wd_21 : Cond.selects RX12 yX12_isBridge yX12_isBridge ∈ lw_good := gd0 21 rfl rfl
theorem wd_22 : Cond.selects RX12 yX12_isTied yX12_isTied ∈ lw_good := gd0 22 rfl rfl
theorem wd_23 : Cond.selects RX12 yX12_setLoad yX12_setLoad ∈ lw_good := gd0 23 rfl rfl
theorem wd_24 : Cond.selects RX12 yX12_addOne yX12_addOne ∈ lw_good := gd0 24 rfl rfl
theorem wd_25 : Cond.selects RX12 yX12_bad yX12_bad ∈ lw_good := gd0 25 rfl rfl
theorem wd_26 : Cond.selects RX12 yX12_layNow yX12_layNow ∈ lw_good := gd0 26 rfl rfl
theorem wd_27 : Cond.selects RX12 yX12_tieMore yX12_tieMore ∈ lw_good := gd0 27 rfl rfl
theorem wd_28 : Cond.selects RX12 yX12_asNow yX12_asNow ∈ lw_good := gd0 28 rfl rfl
theorem wd_29 : Cond.selects RX12 yX12_loadOf yX12_loadOf ∈ lw_good := gd0 29 rfl rfl
theorem wd_30 : Cond.selects RX12 yX12_isOne yX12_isOne ∈ lw_good := gd0 30 rfl rfl
theorem wd_31 : Cond.selects RX12 yX12_isEnd yX12_isEnd ∈ lw_good := gd0 31 rfl rfl
theorem wd_32 : Cond.selects RX12 yX12_takeItem yX12_takeItem ∈ lw_good := gd0 32 rfl rfl
theorem wd_33 : Cond.selects RX12 yX12_takeNumber yX12_takeNumber ∈ lw_good := gd0 33 rfl rfl
theorem wd_34 : Cond.selects RX12 yX12_tellItem yX12_tellItem ∈ lw_good := gd0 34 rfl rfl
theorem wd_35 : Cond.selects RX12 yX12_copy yX12_copy ∈ lw_good := gd0 35 rfl rfl
theorem wd_36 : Cond.selects RX12 yX12_isPlace yX12_isPlace ∈ lw_good := gd0 36 rfl rfl
theorem wd_37 : Cond.selects RX12 yX12_mayStep yX12_mayStep ∈ lw_good := gd0 37 rfl rfl
theorem wd_38 : Cond.selects RX12 yX12_isOf yX12_isOf ∈ lw_good := gd0 38 rfl rfl
theorem wd_39 : Cond.selects RX12 yX12_tipAll yX12_tipAll ∈ lw_good := gd0 39 rfl rfl
theorem wd_40 : Cond.selects RX12 yX12_tip yX12_tip ∈ lw_good := gd0 40 rfl rfl
theorem wd_41 : Cond.selects RX12 yX12_areSome yX12_areSome ∈ lw_good := gd0 41 rfl rfl
theorem wd_42 : Cond.selects RX12 yX12_findWay yX12_findWay ∈ lw_good := gd0 42 rfl rfl
theorem wd_43 : Cond.selects RX12 yX12_goAll yX12_goAll ∈ lw_good := gd0 43 rfl rfl
theorem wd_44 : Cond.selects RX12 yX12_codeNow yX12_codeNow ∈ lw_good := gd0 44 rfl rfl
theorem wd_45 : Cond.selects RX12 yX12_decode yX12_decode ∈ lw_good := gd0 45 rfl rfl
theorem wd_46 : Cond.selects RX12 yX12_stepsTo yX12_stepsTo ∈ lw_good := gd0 46 rfl rfl
theorem wd_47 : Cond.selects RX12 yX12_allLyings yX12_allLyings ∈ lw_good := gd0 47 rfl rfl
theorem wd_48 : Cond.selects RX12 yX12_lyings yX12_lyings ∈ lw_good := gd0 48 rfl rfl
theorem wd_49 : Cond.selects RX12 yX12_stepsOf yX12_stepsOf ∈ lw_good := gd0 49 rfl rfl
theorem wd_50 : Cond.selects RX12 yX12_countOf yX12_countOf ∈ lw_good := gd0 50 rfl rfl
theorem wd_51 : Cond.selects RX12 yX12_mix yX12_mix ∈ lw_good := gd0 51 rfl rfl
theorem wd_53 : Cond.initialized RX11 ∈ lw_good := gd1 1 rfl rfl
theorem wd_54 : Cond.initialized RX2 ∈ lw_good := gd1 2 rfl rfl
theorem wd_55 : Cond.initialized RX7 ∈ lw_good := gd1 3 rfl rfl
theorem wd_56 : Cond.initialized RX1 ∈ lw_good := gd1 4 rfl rfl
theorem wd_57 : Cond.initialized RX0 ∈ lw_good := gd1 5 rfl rfl
theorem wd_58 : Cond.initialized RX5 ∈ lw_good := gd1 6 rfl rfl
theorem wd_59 : Cond.initialized RX4 ∈ lw_good := gd1 7 rfl rfl
theorem wd_60 : Cond.initialized RX3 ∈ lw_good := gd1 8 rfl rfl
theorem wd_61 : Cond.initialized RX6 ∈ lw_good := gd1 9 rfl rfl
theorem wd_62 : Cond.initialized RX10 ∈ lw_good := gd1 10 rfl rfl
theorem wd_63 : Cond.initialized RX8 ∈ lw_good := gd1 11 rfl rfl
theorem wd_64 : Cond.initialized RX9 ∈ lw_good := gd1 12 rfl rfl
theorem wd_65 : Cond.initialized RX12 ∈ lw_good := gd1 13 rfl rfl
theorem wd_71 : Cond.initialized RJ9 ∈ lw_good := gd1 19 rfl rfl
theorem wd_72 : Cond.initialized RJ7 ∈ lw_good := gd1 20 rfl rfl
theorem wd_73 : Cond.initialized RJ6 ∈ lw_good := gd1 21 rfl rfl
theorem wd_130 : Cond.superclass RX3 RX0 ∈ lw_good := gd1 78 rfl rfl
theorem wd_301 : Cond.methodLink RL 13 yX11_bridge ∈ lw_good := gd2 9 rfl rfl
theorem wd_302 : Cond.instanceMethod yX11_bridge ∈ lw_good := gd2 10 rfl rfl
theorem wd_303 : Cond.selects RX11 yX11_bridge yX11_bridge ∈ lw_good := gd2 11 rfl rfl
theorem wd_304 : Cond.code yX11_bridge cX11_bridge 5 (some .int) ∈ lw_good := gd2 12 rfl rfl
theorem wd_305 : Cond.methodLink RX11 48 yX2_addBridge ∈ lw_good := gd2 13 rfl rfl
theorem wd_306 : Cond.instanceMethod yX2_addBridge ∈ lw_good := gd2 14 rfl rfl
theorem wd_307 : Cond.selects RX2 yX2_addBridge yX2_addBridge ∈ lw_good := gd2 15 rfl rfl
theorem wd_308 : Cond.code yX2_addBridge cX2_addBridge 5 (some .int) ∈ lw_good := gd2 16 rfl rfl
theorem wd_310 : Cond.static yX11_isRoom ∈ lw_good := gd2 18 rfl rfl
theorem wd_311 : Cond.code yX11_isRoom cX11_isRoom 1 (some .boolean) ∈ lw_good := gd2 19 rfl rfl
theorem wd_312 : Cond.methodLink RX2 81 yX6_forget ∈ lw_good := gd2 20 rfl rfl
theorem wd_313 : Cond.instanceMethod yX6_forget ∈ lw_good := gd2 21 rfl rfl
theorem wd_314 : Cond.selects RX6 yX6_forget yX6_forget ∈ lw_good := gd2 22 rfl rfl
theorem wd_315 : Cond.code yX6_forget cX6_forget 1 (none) ∈ lw_good := gd2 23 rfl rfl
theorem wd_316 : Cond.methodLink RX11 52 yX11_counted ∈ lw_good := gd2 24 rfl rfl
theorem wd_318 : Cond.instanceMethod yX11_counted ∈ lw_good := gd2 26 rfl rfl
theorem wd_319 : Cond.code yX11_counted cX11_counted 2 (some .int) ∈ lw_good := gd2 27 rfl rfl
theorem wd_320 : Cond.methodLink RL 18 yX11_chain ∈ lw_good := gd2 28 rfl rfl
theorem wd_321 : Cond.instanceMethod yX11_chain ∈ lw_good := gd2 29 rfl rfl
theorem wd_322 : Cond.selects RX11 yX11_chain yX11_chain ∈ lw_good := gd2 30 rfl rfl
theorem wd_323 : Cond.code yX11_chain cX11_chain 4 (some .int) ∈ lw_good := gd2 31 rfl rfl
theorem wd_324 : Cond.methodLink RX11 56 yX2_addChain ∈ lw_good := gd2 32 rfl rfl
theorem wd_325 : Cond.instanceMethod yX2_addChain ∈ lw_good := gd2 33 rfl rfl
theorem wd_326 : Cond.selects RX2 yX2_addChain yX2_addChain ∈ lw_good := gd2 34 rfl rfl
theorem wd_327 : Cond.code yX2_addChain cX2_addChain 4 (some .int) ∈ lw_good := gd2 35 rfl rfl
theorem wd_328 : Cond.methodLink RX2 98 yX2_isBridge ∈ lw_good := gd2 36 rfl rfl
theorem wd_329 : Cond.instanceMethod yX2_isBridge ∈ lw_good := gd2 37 rfl rfl
theorem wd_330 : Cond.selects RX2 yX2_isBridge yX2_isBridge ∈ lw_good := gd2 38 rfl rfl
theorem wd_331 : Cond.code yX2_isBridge cX2_isBridge 2 (some .boolean) ∈ lw_good := gd2 39 rfl rfl
theorem wd_332 : Cond.methodLink RX2 101 yX2_isTied ∈ lw_good := gd2 40 rfl rfl
theorem wd_334 : Cond.instanceMethod yX2_isTied ∈ lw_good := gd2 42 rfl rfl
theorem wd_335 : Cond.code yX2_isTied cX2_isTied 3 (some .boolean) ∈ lw_good := gd2 43 rfl rfl
theorem wd_336 : Cond.methodLink RL 23 yX11_load ∈ lw_good := gd2 44 rfl rfl
theorem wd_337 : Cond.instanceMethod yX11_load ∈ lw_good := gd2 45 rfl rfl
theorem wd_338 : Cond.selects RX11 yX11_load yX11_load ∈ lw_good := gd2 46 rfl rfl
theorem wd_339 : Cond.code yX11_load cX11_load 3 (some .int) ∈ lw_good := gd2 47 rfl rfl
theorem wd_340 : Cond.methodLink RX11 60 yX2_setBallast ∈ lw_good := gd2 48 rfl rfl
theorem wd_341 : Cond.instanceMethod yX2_setBallast ∈ lw_good := gd2 49 rfl rfl
theorem wd_342 : Cond.selects RX2 yX2_setBallast yX2_setBallast ∈ lw_good := gd2 50 rfl rfl
theorem wd_343 : Cond.code yX2_setBallast cX2_setBallast 4 (some .int) ∈ lw_good := gd2 51 rfl rfl
theorem wd_344 : Cond.methodLink RL 28 yX11_one ∈ lw_good := gd2 52 rfl rfl
theorem wd_345 : Cond.instanceMethod yX11_one ∈ lw_good := gd2 53 rfl rfl
theorem wd_346 : Cond.selects RX11 yX11_one yX11_one ∈ lw_good := gd2 54 rfl rfl
theorem wd_347 : Cond.code yX11_one cX11_one 3 (some .int) ∈ lw_good := gd2 55 rfl rfl
theorem wd_348 : Cond.methodLink RX11 64 yX2_addPerson ∈ lw_good := gd2 56 rfl rfl
theorem wd_349 : Cond.instanceMethod yX2_addPerson ∈ lw_good := gd2 57 rfl rfl
theorem wd_350 : Cond.selects RX2 yX2_addPerson yX2_addPerson ∈ lw_good := gd2 58 rfl rfl
theorem wd_351 : Cond.code yX2_addPerson cX2_addPerson 3 (some .int) ∈ lw_good := gd2 59 rfl rfl
theorem wd_352 : Cond.methodLink RL 32 yX11_weight ∈ lw_good := gd2 60 rfl rfl
theorem wd_353 : Cond.instanceMethod yX11_weight ∈ lw_good := gd2 61 rfl rfl
theorem wd_354 : Cond.selects RX11 yX11_weight yX11_weight ∈ lw_good := gd2 62 rfl rfl
theorem wd_355 : Cond.code yX11_weight cX11_weight 2 (some .int) ∈ lw_good := gd2 63 rfl rfl
theorem wd_356 : Cond.methodLink RX11 67 yX2_isBridge ∈ lw_good := gd2 64 rfl rfl
theorem wd_357 : Cond.methodLink RX11 71 yX2_loadOn ∈ lw_good := gd2 65 rfl rfl
theorem wd_358 : Cond.instanceMethod yX2_loadOn ∈ lw_good := gd2 66 rfl rfl
theorem wd_359 : Cond.selects RX2 yX2_loadOn yX2_loadOn ∈ lw_good := gd2 67 rfl rfl
theorem wd_360 : Cond.code yX2_loadOn cX2_loadOn 4 (some .int) ∈ lw_good := gd2 68 rfl rfl
theorem wd_361 : Cond.methodLink RX2 112 yX7_loadBy ∈ lw_good := gd2 69 rfl rfl
theorem wd_362 : Cond.instanceMethod yX7_loadBy ∈ lw_good := gd2 70 rfl rfl
theorem wd_363 : Cond.selects RX7 yX7_loadBy yX7_loadBy ∈ lw_good := gd2 71 rfl rfl
theorem wd_364 : Cond.sameMethod RX7 RX7 "loadBy" "(I)I" ∈ lw_good := gd2 72 rfl rfl
theorem wd_365 : Cond.selects RX0 yX7_loadBy yX0_loadBy ∈ lw_good := gd2 73 rfl rfl
theorem wd_366 : Cond.instanceMethod yX0_loadBy ∈ lw_good := gd2 74 rfl rfl
theorem wd_367 : Cond.code yX0_loadBy cX0_loadBy 2 (some .int) ∈ lw_good := gd2 75 rfl rfl
theorem wd_368 : Cond.selects RX1 yX7_loadBy yX1_loadBy ∈ lw_good := gd2 76 rfl rfl
theorem wd_369 : Cond.instanceMethod yX1_loadBy ∈ lw_good := gd2 77 rfl rfl
theorem wd_370 : Cond.code yX1_loadBy cX1_loadBy 2 (some .int) ∈ lw_good := gd2 78 rfl rfl
theorem wd_371 : Cond.selects RX3 yX7_loadBy yX3_loadBy ∈ lw_good := gd2 79 rfl rfl
theorem wd_372 : Cond.instanceMethod yX3_loadBy ∈ lw_good := gd2 80 rfl rfl
theorem wd_373 : Cond.code yX3_loadBy cX3_loadBy 3 (some .int) ∈ lw_good := gd2 81 rfl rfl
theorem wd_374 : Cond.methodLink RX3 7 yX0_loadBy ∈ lw_good := gd2 82 rfl rfl
theorem wd_375 : Cond.selects RX4 yX7_loadBy yX1_loadBy ∈ lw_good := gd2 83 rfl rfl
theorem wd_376 : Cond.selects RX5 yX7_loadBy yX7_loadBy ∈ lw_good := gd2 84 rfl rfl
theorem wd_377 : Cond.code yX7_loadBy cX7_loadBy 2 (some .int) ∈ lw_good := gd2 85 rfl rfl
theorem wd_378 : Cond.methodLink RL 37 yX11_where ∈ lw_good := gd2 86 rfl rfl
theorem wd_379 : Cond.instanceMethod yX11_where ∈ lw_good := gd2 87 rfl rfl
theorem wd_380 : Cond.selects RX11 yX11_where yX11_where ∈ lw_good := gd2 88 rfl rfl
theorem wd_381 : Cond.code yX11_where cX11_where 2 (some .int) ∈ lw_good := gd2 89 rfl rfl
theorem wd_382 : Cond.methodLink RX11 74 yX2_isPerson ∈ lw_good := gd2 90 rfl rfl
theorem wd_383 : Cond.instanceMethod yX2_isPerson ∈ lw_good := gd2 91 rfl rfl
theorem wd_384 : Cond.selects RX2 yX2_isPerson yX2_isPerson ∈ lw_good := gd2 92 rfl rfl
theorem wd_385 : Cond.code yX2_isPerson cX2_isPerson 2 (some .boolean) ∈ lw_good := gd2 93 rfl rfl
theorem wd_386 : Cond.methodLink RL 41 yX11_lying ∈ lw_good := gd2 94 rfl rfl
theorem wd_387 : Cond.instanceMethod yX11_lying ∈ lw_good := gd2 95 rfl rfl
theorem wd_388 : Cond.selects RX11 yX11_lying yX11_lying ∈ lw_good := gd2 96 rfl rfl
theorem wd_389 : Cond.code yX11_lying cX11_lying 1 (some .int) ∈ lw_good := gd2 97 rfl rfl
theorem wd_390 : Cond.methodLink RL 48 yX11_type ∈ lw_good := gd2 98 rfl rfl
theorem wd_391 : Cond.instanceMethod yX11_type ∈ lw_good := gd2 99 rfl rfl
theorem wd_392 : Cond.selects RX11 yX11_type yX11_type ∈ lw_good := gd2 100 rfl rfl
theorem wd_393 : Cond.code yX11_type cX11_type 4 (some .int) ∈ lw_good := gd2 101 rfl rfl
theorem wd_394 : Cond.methodLink RX11 85 yX10_append ∈ lw_good := gd2 102 rfl rfl
theorem wd_395 : Cond.instanceMethod yX10_append ∈ lw_good := gd2 103 rfl rfl
theorem wd_396 : Cond.selects RX10 yX10_append yX10_append ∈ lw_good := gd2 104 rfl rfl
theorem wd_397 : Cond.code yX10_append cX10_append 5 (some .int) ∈ lw_good := gd2 105 rfl rfl
theorem wd_399 : Cond.methodLink RL 53 yX11_clear ∈ lw_good := gd2 107 rfl rfl
theorem wd_400 : Cond.instanceMethod yX11_clear ∈ lw_good := gd2 108 rfl rfl
theorem wd_401 : Cond.selects RX11 yX11_clear yX11_clear ∈ lw_good := gd2 109 rfl rfl
theorem wd_402 : Cond.code yX11_clear cX11_clear 1 (some .int) ∈ lw_good := gd2 110 rfl rfl
theorem wd_403 : Cond.methodLink RX11 89 yX10_wipe ∈ lw_good := gd2 111 rfl rfl
theorem wd_404 : Cond.instanceMethod yX10_wipe ∈ lw_good := gd2 112 rfl rfl
theorem wd_405 : Cond.selects RX10 yX10_wipe yX10_wipe ∈ lw_good := gd2 113 rfl rfl
theorem wd_406 : Cond.code yX10_wipe cX10_wipe 2 (some .int) ∈ lw_good := gd2 114 rfl rfl
theorem wd_407 : Cond.methodLink RL 57 yX11_read ∈ lw_good := gd2 115 rfl rfl
theorem wd_408 : Cond.instanceMethod yX11_read ∈ lw_good := gd2 116 rfl rfl
theorem wd_409 : Cond.selects RX11 yX11_read yX11_read ∈ lw_good := gd2 117 rfl rfl
theorem wd_410 : Cond.code yX11_read cX11_read 2 (some .int) ∈ lw_good := gd2 118 rfl rfl
theorem wd_411 : Cond.methodLink RX11 93 yX8_readInto ∈ lw_good := gd2 119 rfl rfl
theorem wd_412 : Cond.instanceMethod yX8_readInto ∈ lw_good := gd2 120 rfl rfl
theorem wd_413 : Cond.selects RX8 yX8_readInto yX8_readInto ∈ lw_good := gd2 121 rfl rfl
theorem wd_414 : Cond.code yX8_readInto cX8_readInto 5 (some .int) ∈ lw_good := gd2 122 rfl rfl
theorem wd_415 : Cond.methodLink RX8 15 yX2_empty ∈ lw_good := gd2 123 rfl rfl
theorem wd_416 : Cond.instanceMethod yX2_empty ∈ lw_good := gd2 124 rfl rfl
theorem wd_417 : Cond.selects RX2 yX2_empty yX2_empty ∈ lw_good := gd2 125 rfl rfl
theorem wd_418 : Cond.code yX2_empty cX2_empty 1 (none) ∈ lw_good := gd2 126 rfl rfl
theorem wd_419 : Cond.methodLink RX8 20 yX10_lookAtFirst ∈ lw_good := gd2 127 rfl rfl
theorem wd_420 : Cond.instanceMethod yX10_lookAtFirst ∈ lw_good := gd2 128 rfl rfl
theorem wd_421 : Cond.selects RX10 yX10_lookAtFirst yX10_lookAtFirst ∈ lw_good := gd2 129 rfl rfl
theorem wd_422 : Cond.code yX10_lookAtFirst cX10_lookAtFirst 1 (none) ∈ lw_good := gd2 130 rfl rfl
theorem wd_423 : Cond.methodLink RX10 24 yX10_lookAtNext ∈ lw_good := gd2 131 rfl rfl
theorem wd_424 : Cond.instanceMethod yX10_lookAtNext ∈ lw_good := gd2 132 rfl rfl
theorem wd_425 : Cond.selects RX10 yX10_lookAtNext yX10_lookAtNext ∈ lw_good := gd2 133 rfl rfl
theorem wd_426 : Cond.code yX10_lookAtNext cX10_lookAtNext 1 (none) ∈ lw_good := gd2 134 rfl rfl
theorem wd_427 : Cond.methodLink RX10 33 yX10_isLetter ∈ lw_good := gd2 135 rfl rfl
theorem wd_428 : Cond.static yX10_isLetter ∈ lw_good := gd2 136 rfl rfl
theorem wd_429 : Cond.code yX10_isLetter cX10_isLetter 1 (some .boolean) ∈ lw_good := gd2 137 rfl rfl
theorem wd_430 : Cond.methodLink RX10 37 yX10_takeWord ∈ lw_good := gd2 138 rfl rfl
theorem wd_432 : Cond.instanceMethod yX10_takeWord ∈ lw_good := gd2 140 rfl rfl
theorem wd_433 : Cond.code yX10_takeWord cX10_takeWord 1 (none) ∈ lw_good := gd2 141 rfl rfl
theorem wd_434 : Cond.methodLink RX10 46 yX10_itemOfWord ∈ lw_good := gd2 142 rfl rfl
theorem wd_436 : Cond.instanceMethod yX10_itemOfWord ∈ lw_good := gd2 144 rfl rfl
theorem wd_437 : Cond.code yX10_itemOfWord cX10_itemOfWord 1 (some .int) ∈ lw_good := gd2 145 rfl rfl
theorem wd_439 : Cond.methodLink RX10 55 yX10_isWord ∈ lw_good := gd2 147 rfl rfl
theorem wd_441 : Cond.instanceMethod yX10_isWord ∈ lw_good := gd2 149 rfl rfl
theorem wd_442 : Cond.code yX10_isWord cX10_isWord 3 (some .boolean) ∈ lw_good := gd2 150 rfl rfl
theorem wd_495 : Cond.methodLink RX10 40 yX10_isFigure ∈ lw_good := gd2 203 rfl rfl
theorem wd_496 : Cond.static yX10_isFigure ∈ lw_good := gd2 204 rfl rfl
theorem wd_497 : Cond.code yX10_isFigure cX10_isFigure 1 (some .boolean) ∈ lw_good := gd2 205 rfl rfl
theorem wd_498 : Cond.methodLink RX10 43 yX10_takeNumber ∈ lw_good := gd2 206 rfl rfl
theorem wd_500 : Cond.instanceMethod yX10_takeNumber ∈ lw_good := gd2 208 rfl rfl
theorem wd_501 : Cond.code yX10_takeNumber cX10_takeNumber 1 (none) ∈ lw_good := gd2 209 rfl rfl
theorem wd_502 : Cond.methodLink RX8 29 yX8_readItem ∈ lw_good := gd2 210 rfl rfl
theorem wd_504 : Cond.instanceMethod yX8_readItem ∈ lw_good := gd2 212 rfl rfl
theorem wd_505 : Cond.code yX8_readItem cX8_readItem 3 (some .boolean) ∈ lw_good := gd2 213 rfl rfl
theorem wd_508 : Cond.methodLink RX8 49 yX10_lookAtNext ∈ lw_good := gd2 216 rfl rfl
theorem wd_509 : Cond.methodLink RX8 36 yX8_tell ∈ lw_good := gd2 217 rfl rfl
theorem wd_511 : Cond.instanceMethod yX8_tell ∈ lw_good := gd2 219 rfl rfl
theorem wd_512 : Cond.code yX8_tell cX8_tell 2 (some .int) ∈ lw_good := gd2 220 rfl rfl
theorem wd_513 : Cond.methodLink RX8 52 yX2_addBridge ∈ lw_good := gd2 221 rfl rfl
theorem wd_514 : Cond.methodLink RX8 56 yX2_addChain ∈ lw_good := gd2 222 rfl rfl
theorem wd_515 : Cond.methodLink RX8 60 yX2_addPerson ∈ lw_good := gd2 223 rfl rfl
theorem wd_516 : Cond.methodLink RX8 64 yX2_setBallast ∈ lw_good := gd2 224 rfl rfl
theorem wd_517 : Cond.methodLink RX11 97 yX2_take ∈ lw_good := gd2 225 rfl rfl
theorem wd_518 : Cond.instanceMethod yX2_take ∈ lw_good := gd2 226 rfl rfl
theorem wd_519 : Cond.selects RX2 yX2_take yX2_take ∈ lw_good := gd2 227 rfl rfl
theorem wd_520 : Cond.code yX2_take cX2_take 2 (none) ∈ lw_good := gd2 228 rfl rfl
theorem wd_524 : Cond.methodLink RX2 90 yX6_take ∈ lw_good := gd2 232 rfl rfl
theorem wd_525 : Cond.instanceMethod yX6_take ∈ lw_good := gd2 233 rfl rfl
theorem wd_526 : Cond.selects RX6 yX6_take yX6_take ∈ lw_good := gd2 234 rfl rfl
theorem wd_527 : Cond.code yX6_take cX6_take 2 (none) ∈ lw_good := gd2 235 rfl rfl
theorem wd_530 : Cond.methodLink RL 61 yX11_step ∈ lw_good := gd2 238 rfl rfl
theorem wd_531 : Cond.instanceMethod yX11_step ∈ lw_good := gd2 239 rfl rfl
theorem wd_532 : Cond.selects RX11 yX11_step yX11_step ∈ lw_good := gd3 0 rfl rfl
theorem wd_533 : Cond.code yX11_step cX11_step 3 (some .int) ∈ lw_good := gd3 1 rfl rfl
theorem wd_534 : Cond.methodLink RX11 101 yX2_isPlace ∈ lw_good := gd3 2 rfl rfl
theorem wd_535 : Cond.instanceMethod yX2_isPlace ∈ lw_good := gd3 3 rfl rfl
theorem wd_536 : Cond.selects RX2 yX2_isPlace yX2_isPlace ∈ lw_good := gd3 4 rfl rfl
theorem wd_537 : Cond.code yX2_isPlace cX2_isPlace 2 (some .boolean) ∈ lw_good := gd3 5 rfl rfl
theorem wd_538 : Cond.methodLink RX11 104 yX2_canGo ∈ lw_good := gd3 6 rfl rfl
theorem wd_539 : Cond.instanceMethod yX2_canGo ∈ lw_good := gd3 7 rfl rfl
theorem wd_540 : Cond.selects RX2 yX2_canGo yX2_canGo ∈ lw_good := gd3 8 rfl rfl
theorem wd_541 : Cond.code yX2_canGo cX2_canGo 6 (some .boolean) ∈ lw_good := gd3 9 rfl rfl
theorem wd_542 : Cond.methodLink RX2 116 yJ9_min_7cf53 ∈ lw_good := gd3 10 rfl rfl
theorem wd_543 : Cond.static yJ9_min_7cf53 ∈ lw_good := gd3 11 rfl rfl
theorem wd_544 : Cond.code yJ9_min_7cf53 cJ9_min_7cf53 2 (some .int) ∈ lw_good := gd3 12 rfl rfl
theorem wd_545 : Cond.methodLink RX2 122 yJ9_max_7cf53 ∈ lw_good := gd3 13 rfl rfl
theorem wd_546 : Cond.static yJ9_max_7cf53 ∈ lw_good := gd3 14 rfl rfl
theorem wd_547 : Cond.code yJ9_max_7cf53 cJ9_max_7cf53 2 (some .int) ∈ lw_good := gd3 15 rfl rfl
theorem wd_548 : Cond.methodLink RX2 125 yX2_isDown ∈ lw_good := gd3 16 rfl rfl
theorem wd_550 : Cond.instanceMethod yX2_isDown ∈ lw_good := gd3 18 rfl rfl
theorem wd_551 : Cond.code yX2_isDown cX2_isDown 2 (some .boolean) ∈ lw_good := gd3 19 rfl rfl
theorem wd_552 : Cond.methodLink RX2 108 yX2_joins ∈ lw_good := gd3 20 rfl rfl
theorem wd_554 : Cond.instanceMethod yX2_joins ∈ lw_good := gd3 22 rfl rfl
theorem wd_555 : Cond.code yX2_joins cX2_joins 3 (some .boolean) ∈ lw_good := gd3 23 rfl rfl
theorem wd_556 : Cond.methodLink RX11 112 yX2_packed ∈ lw_good := gd3 24 rfl rfl
theorem wd_557 : Cond.instanceMethod yX2_packed ∈ lw_good := gd3 25 rfl rfl
theorem wd_558 : Cond.selects RX2 yX2_packed yX2_packed ∈ lw_good := gd3 26 rfl rfl
theorem wd_559 : Cond.code yX2_packed cX2_packed 3 (some .int) ∈ lw_good := gd3 27 rfl rfl
theorem wd_560 : Cond.methodLink RX11 115 yX6_push ∈ lw_good := gd3 28 rfl rfl
theorem wd_561 : Cond.instanceMethod yX6_push ∈ lw_good := gd3 29 rfl rfl
theorem wd_562 : Cond.selects RX6 yX6_push yX6_push ∈ lw_good := gd3 30 rfl rfl
theorem wd_563 : Cond.code yX6_push cX6_push 2 (none) ∈ lw_good := gd3 31 rfl rfl
theorem wd_564 : Cond.methodLink RX11 121 yX2_go ∈ lw_good := gd3 32 rfl rfl
theorem wd_565 : Cond.instanceMethod yX2_go ∈ lw_good := gd3 33 rfl rfl
theorem wd_566 : Cond.selects RX2 yX2_go yX2_go ∈ lw_good := gd3 34 rfl rfl
theorem wd_567 : Cond.code yX2_go cX2_go 7 (none) ∈ lw_good := gd3 35 rfl rfl
theorem wd_568 : Cond.methodLink RX2 128 yX2_loadOn ∈ lw_good := gd3 36 rfl rfl
theorem wd_569 : Cond.methodLink RX2 131 yX2_tip ∈ lw_good := gd3 37 rfl rfl
theorem wd_571 : Cond.instanceMethod yX2_tip ∈ lw_good := gd3 39 rfl rfl
theorem wd_572 : Cond.code yX2_tip cX2_tip 5 (none) ∈ lw_good := gd3 40 rfl rfl
theorem wd_573 : Cond.methodLink RX2 135 yX7_mayFall ∈ lw_good := gd3 41 rfl rfl
theorem wd_574 : Cond.instanceMethod yX7_mayFall ∈ lw_good := gd3 42 rfl rfl
theorem wd_575 : Cond.selects RX7 yX7_mayFall yX7_mayFall ∈ lw_good := gd3 43 rfl rfl
theorem wd_576 : Cond.sameMethod RX7 RX7 "mayFall" "()Z" ∈ lw_good := gd3 44 rfl rfl
theorem wd_577 : Cond.selects RX0 yX7_mayFall yX7_mayFall ∈ lw_good := gd3 45 rfl rfl
theorem wd_578 : Cond.selects RX1 yX7_mayFall yX7_mayFall ∈ lw_good := gd3 46 rfl rfl
theorem wd_579 : Cond.selects RX3 yX7_mayFall yX7_mayFall ∈ lw_good := gd3 47 rfl rfl
theorem wd_580 : Cond.selects RX4 yX7_mayFall yX4_mayFall ∈ lw_good := gd3 48 rfl rfl
theorem wd_581 : Cond.instanceMethod yX4_mayFall ∈ lw_good := gd3 49 rfl rfl
theorem wd_582 : Cond.code yX4_mayFall cX4_mayFall 1 (some .boolean) ∈ lw_good := gd3 50 rfl rfl
theorem wd_583 : Cond.selects RX5 yX7_mayFall yX7_mayFall ∈ lw_good := gd3 51 rfl rfl
theorem wd_584 : Cond.code yX7_mayFall cX7_mayFall 1 (some .boolean) ∈ lw_good := gd3 52 rfl rfl
theorem wd_585 : Cond.methodLink RX2 139 yX7_mayRise ∈ lw_good := gd3 53 rfl rfl
theorem wd_586 : Cond.instanceMethod yX7_mayRise ∈ lw_good := gd3 54 rfl rfl
theorem wd_587 : Cond.selects RX7 yX7_mayRise yX7_mayRise ∈ lw_good := gd3 55 rfl rfl
theorem wd_588 : Cond.sameMethod RX7 RX7 "mayRise" "()Z" ∈ lw_good := gd3 56 rfl rfl
theorem wd_589 : Cond.selects RX0 yX7_mayRise yX7_mayRise ∈ lw_good := gd3 57 rfl rfl
theorem wd_590 : Cond.selects RX1 yX7_mayRise yX7_mayRise ∈ lw_good := gd3 58 rfl rfl
theorem wd_591 : Cond.selects RX3 yX7_mayRise yX7_mayRise ∈ lw_good := gd3 59 rfl rfl
theorem wd_592 : Cond.selects RX4 yX7_mayRise yX7_mayRise ∈ lw_good := gd3 60 rfl rfl
theorem wd_593 : Cond.selects RX5 yX7_mayRise yX5_mayRise ∈ lw_good := gd3 61 rfl rfl
theorem wd_594 : Cond.instanceMethod yX5_mayRise ∈ lw_good := gd3 62 rfl rfl
theorem wd_595 : Cond.code yX5_mayRise cX5_mayRise 1 (some .boolean) ∈ lw_good := gd3 63 rfl rfl
theorem wd_596 : Cond.code yX7_mayRise cX7_mayRise 1 (some .boolean) ∈ lw_good := gd3 64 rfl rfl
theorem wd_597 : Cond.methodLink RL 65 yX11_undo ∈ lw_good := gd3 65 rfl rfl
theorem wd_598 : Cond.instanceMethod yX11_undo ∈ lw_good := gd3 66 rfl rfl
theorem wd_599 : Cond.selects RX11 yX11_undo yX11_undo ∈ lw_good := gd3 67 rfl rfl
theorem wd_600 : Cond.code yX11_undo cX11_undo 1 (some .int) ∈ lw_good := gd3 68 rfl rfl
theorem wd_601 : Cond.methodLink RX11 128 yX6_pop ∈ lw_good := gd3 69 rfl rfl
theorem wd_602 : Cond.instanceMethod yX6_pop ∈ lw_good := gd3 70 rfl rfl
theorem wd_603 : Cond.selects RX6 yX6_pop yX6_pop ∈ lw_good := gd3 71 rfl rfl
theorem wd_604 : Cond.code yX6_pop cX6_pop 1 (some .int) ∈ lw_good := gd3 72 rfl rfl
theorem wd_605 : Cond.methodLink RX11 131 yX2_unpack ∈ lw_good := gd3 73 rfl rfl
theorem wd_606 : Cond.instanceMethod yX2_unpack ∈ lw_good := gd3 74 rfl rfl
theorem wd_607 : Cond.selects RX2 yX2_unpack yX2_unpack ∈ lw_good := gd3 75 rfl rfl
theorem wd_608 : Cond.code yX2_unpack cX2_unpack 4 (none) ∈ lw_good := gd3 76 rfl rfl
theorem wd_609 : Cond.methodLink RL 69 yX11_way ∈ lw_good := gd3 77 rfl rfl
theorem wd_610 : Cond.instanceMethod yX11_way ∈ lw_good := gd3 78 rfl rfl
theorem wd_611 : Cond.selects RX11 yX11_way yX11_way ∈ lw_good := gd3 79 rfl rfl
theorem wd_612 : Cond.code yX11_way cX11_way 5 (some .int) ∈ lw_good := gd3 80 rfl rfl
theorem wd_613 : Cond.methodLink RX11 134 yX2_areSome ∈ lw_good := gd3 81 rfl rfl
theorem wd_614 : Cond.instanceMethod yX2_areSome ∈ lw_good := gd3 82 rfl rfl
theorem wd_615 : Cond.selects RX2 yX2_areSome yX2_areSome ∈ lw_good := gd3 83 rfl rfl
theorem wd_616 : Cond.code yX2_areSome cX2_areSome 2 (some .boolean) ∈ lw_good := gd3 84 rfl rfl
theorem wd_617 : Cond.methodLink RX11 137 yX11_isRoom ∈ lw_good := gd3 85 rfl rfl
theorem wd_618 : Cond.methodLink RX11 140 yX11_stepsNow ∈ lw_good := gd3 86 rfl rfl
theorem wd_620 : Cond.instanceMethod yX11_stepsNow ∈ lw_good := gd3 88 rfl rfl
theorem wd_621 : Cond.code yX11_stepsNow cX11_stepsNow 3 (some .int) ∈ lw_good := gd3 89 rfl rfl
theorem wd_622 : Cond.methodLink RX11 178 yX9_shorter ∈ lw_good := gd3 90 rfl rfl
theorem wd_623 : Cond.instanceMethod yX9_shorter ∈ lw_good := gd3 91 rfl rfl
theorem wd_624 : Cond.selects RX9 yX9_shorter yX9_shorter ∈ lw_good := gd3 92 rfl rfl
theorem wd_625 : Cond.code yX9_shorter cX9_shorter 10 (some .int) ∈ lw_good := gd3 93 rfl rfl
theorem wd_626 : Cond.methodLink RX9 19 yX2_packed ∈ lw_good := gd3 94 rfl rfl
theorem wd_627 : Cond.methodLink RX9 25 yX9_begin ∈ lw_good := gd3 95 rfl rfl
theorem wd_629 : Cond.instanceMethod yX9_begin ∈ lw_good := gd3 97 rfl rfl
theorem wd_630 : Cond.code yX9_begin cX9_begin 2 (none) ∈ lw_good := gd3 98 rfl rfl
theorem wd_631 : Cond.methodLink RX9 51 yJ7_fill_d0a16 ∈ lw_good := gd3 99 rfl rfl
theorem wd_632 : Cond.static yJ7_fill_d0a16 ∈ lw_good := gd3 100 rfl rfl
theorem wd_633 : Cond.code yJ7_fill_d0a16 cJ7_fill_d0a16 5 (none) ∈ lw_good := gd3 101 rfl rfl
theorem wd_634 : Cond.methodLink RX9 60 yX9_note ∈ lw_good := gd3 102 rfl rfl
theorem wd_636 : Cond.instanceMethod yX9_note ∈ lw_good := gd3 104 rfl rfl
theorem wd_637 : Cond.code yX9_note cX9_note 6 (none) ∈ lw_good := gd3 105 rfl rfl
theorem wd_638 : Cond.methodLink RX9 33 yX9_stateAt ∈ lw_good := gd3 106 rfl rfl
theorem wd_640 : Cond.instanceMethod yX9_stateAt ∈ lw_good := gd3 108 rfl rfl
theorem wd_641 : Cond.code yX9_stateAt cX9_stateAt 2 (some .int) ∈ lw_good := gd3 109 rfl rfl
theorem wd_642 : Cond.methodLink RX9 37 yX2_unpack ∈ lw_good := gd3 110 rfl rfl
theorem wd_643 : Cond.methodLink RX9 40 yX2_areIn ∈ lw_good := gd3 111 rfl rfl
theorem wd_644 : Cond.instanceMethod yX2_areIn ∈ lw_good := gd3 112 rfl rfl
theorem wd_645 : Cond.selects RX2 yX2_areIn yX2_areIn ∈ lw_good := gd3 113 rfl rfl
theorem wd_646 : Cond.code yX2_areIn cX2_areIn 4 (some .boolean) ∈ lw_good := gd3 114 rfl rfl
theorem wd_647 : Cond.methodLink RX9 47 yX9_goOn ∈ lw_good := gd3 115 rfl rfl
theorem wd_649 : Cond.instanceMethod yX9_goOn ∈ lw_good := gd3 117 rfl rfl
theorem wd_650 : Cond.code yX9_goOn cX9_goOn 8 (none) ∈ lw_good := gd3 118 rfl rfl
theorem wd_651 : Cond.methodLink RX9 73 yX2_canGo ∈ lw_good := gd3 119 rfl rfl
theorem wd_652 : Cond.methodLink RX9 76 yX2_go ∈ lw_good := gd3 120 rfl rfl
theorem wd_653 : Cond.methodLink RX11 143 yX9_stepOfWay ∈ lw_good := gd3 121 rfl rfl
theorem wd_654 : Cond.instanceMethod yX9_stepOfWay ∈ lw_good := gd3 122 rfl rfl
theorem wd_655 : Cond.selects RX9 yX9_stepOfWay yX9_stepOfWay ∈ lw_good := gd3 123 rfl rfl
theorem wd_656 : Cond.code yX9_stepOfWay cX9_stepOfWay 5 (some .int) ∈ lw_good := gd3 124 rfl rfl
theorem wd_657 : Cond.methodLink RX9 79 yX9_before ∈ lw_good := gd3 125 rfl rfl
theorem wd_659 : Cond.instanceMethod yX9_before ∈ lw_good := gd3 127 rfl rfl
theorem wd_660 : Cond.code yX9_before cX9_before 2 (some .int) ∈ lw_good := gd3 128 rfl rfl
theorem wd_661 : Cond.methodLink RX9 82 yX9_stepBetween ∈ lw_good := gd3 129 rfl rfl
theorem wd_662 : Cond.static yX9_stepBetween ∈ lw_good := gd3 130 rfl rfl
theorem wd_663 : Cond.code yX9_stepBetween cX9_stepBetween 5 (some .int) ∈ lw_good := gd3 131 rfl rfl
theorem wd_664 : Cond.methodLink RL 73 yX11_reach ∈ lw_good := gd3 132 rfl rfl
theorem wd_665 : Cond.instanceMethod yX11_reach ∈ lw_good := gd3 133 rfl rfl
theorem wd_666 : Cond.selects RX11 yX11_reach yX11_reach ∈ lw_good := gd3 134 rfl rfl
theorem wd_667 : Cond.code yX11_reach cX11_reach 3 (some .int) ∈ lw_good := gd3 135 rfl rfl
theorem wd_668 : Cond.methodLink RX11 146 yX11_lyingsNow ∈ lw_good := gd3 136 rfl rfl
theorem wd_670 : Cond.instanceMethod yX11_lyingsNow ∈ lw_good := gd3 138 rfl rfl
theorem wd_671 : Cond.code yX11_lyingsNow cX11_lyingsNow 1 (some .int) ∈ lw_good := gd3 139 rfl rfl
theorem wd_672 : Cond.methodLink RX11 152 yJ6_bitCount_0f7a4 ∈ lw_good := gd3 140 rfl rfl
theorem wd_673 : Cond.static yJ6_bitCount_0f7a4 ∈ lw_good := gd3 141 rfl rfl
theorem wd_674 : Cond.code yJ6_bitCount_0f7a4 cJ6_bitCount_0f7a4 1 (some .int) ∈ lw_good := gd3 142 rfl rfl
theorem wd_678 : Cond.methodLink RX11 157 yX2_allBridges ∈ lw_good := gd3 146 rfl rfl
theorem wd_679 : Cond.instanceMethod yX2_allBridges ∈ lw_good := gd3 147 rfl rfl
theorem wd_680 : Cond.selects RX2 yX2_allBridges yX2_allBridges ∈ lw_good := gd3 148 rfl rfl
theorem wd_681 : Cond.code yX2_allBridges cX2_allBridges 1 (some .int) ∈ lw_good := gd3 149 rfl rfl
theorem wd_682 : Cond.methodLink RX11 160 yX11_downInAll ∈ lw_good := gd3 150 rfl rfl
theorem wd_683 : Cond.static yX11_downInAll ∈ lw_good := gd3 151 rfl rfl
theorem wd_684 : Cond.code yX11_downInAll cX11_downInAll 4 (some .int) ∈ lw_good := gd3 152 rfl rfl
theorem wd_685 : Cond.methodLink RX11 169 yX11_isAmong ∈ lw_good := gd3 153 rfl rfl
theorem wd_686 : Cond.static yX11_isAmong ∈ lw_good := gd3 154 rfl rfl
theorem wd_687 : Cond.code yX11_isAmong cX11_isAmong 2 (some .boolean) ∈ lw_good := gd3 155 rfl rfl
theorem wd_688 : Cond.methodLink RX11 163 yX11_downInSome ∈ lw_good := gd3 156 rfl rfl
theorem wd_689 : Cond.static yX11_downInSome ∈ lw_good := gd3 157 rfl rfl
theorem wd_690 : Cond.code yX11_downInSome cX11_downInSome 3 (some .int) ∈ lw_good := gd3 158 rfl rfl
theorem wd_691 : Cond.methodLink RL 77 yX11_can ∈ lw_good := gd3 159 rfl rfl
theorem wd_692 : Cond.instanceMethod yX11_can ∈ lw_good := gd3 160 rfl rfl
theorem wd_693 : Cond.selects RX11 yX11_can yX11_can ∈ lw_good := gd3 161 rfl rfl
theorem wd_694 : Cond.code yX11_can cX11_can 2 (some .int) ∈ lw_good := gd3 162 rfl rfl
theorem wd_695 : Cond.methodLink RX11 166 yX2_areBridges ∈ lw_good := gd3 163 rfl rfl
theorem wd_696 : Cond.instanceMethod yX2_areBridges ∈ lw_good := gd3 164 rfl rfl
theorem wd_697 : Cond.selects RX2 yX2_areBridges yX2_areBridges ∈ lw_good := gd3 165 rfl rfl
theorem wd_698 : Cond.code yX2_areBridges cX2_areBridges 2 (some .boolean) ∈ lw_good := gd3 166 rfl rfl
theorem wd_699 : Cond.methodLink RX2 104 yX2_allBridges ∈ lw_good := gd3 167 rfl rfl
theorem wd_700 : Cond.methodLink RL 81 yX11_closed ∈ lw_good := gd3 168 rfl rfl
theorem wd_701 : Cond.instanceMethod yX11_closed ∈ lw_good := gd3 169 rfl rfl
theorem wd_702 : Cond.selects RX11 yX11_closed yX11_closed ∈ lw_good := gd3 170 rfl rfl
theorem wd_703 : Cond.code yX11_closed cX11_closed 5 (some .int) ∈ lw_good := gd3 171 rfl rfl
theorem wd_704 : Cond.methodLink RX11 172 yX2_bridgesOf ∈ lw_good := gd3 172 rfl rfl
theorem wd_705 : Cond.instanceMethod yX2_bridgesOf ∈ lw_good := gd3 173 rfl rfl
theorem wd_706 : Cond.selects RX2 yX2_bridgesOf yX2_bridgesOf ∈ lw_good := gd3 174 rfl rfl
theorem wd_707 : Cond.code yX2_bridgesOf cX2_bridgesOf 4 (some .int) ∈ lw_good := gd3 175 rfl rfl
theorem wd_708 : Cond.methodLink RL 85 yX11_child ∈ lw_good := gd3 176 rfl rfl
theorem wd_709 : Cond.instanceMethod yX11_child ∈ lw_good := gd3 177 rfl rfl
theorem wd_710 : Cond.selects RX11 yX11_child yX11_child ∈ lw_good := gd3 178 rfl rfl
theorem wd_711 : Cond.code yX11_child cX11_child 3 (some .int) ∈ lw_good := gd3 179 rfl rfl
theorem wd_712 : Cond.methodLink RX11 175 yX2_leaveOut ∈ lw_good := gd3 180 rfl rfl
theorem wd_713 : Cond.instanceMethod yX2_leaveOut ∈ lw_good := gd3 181 rfl rfl
theorem wd_714 : Cond.selects RX2 yX2_leaveOut yX2_leaveOut ∈ lw_good := gd3 182 rfl rfl
theorem wd_715 : Cond.code yX2_leaveOut cX2_leaveOut 3 (none) ∈ lw_good := gd3 183 rfl rfl
theorem wd_716 : Cond.methodLink RL 89 yX11_cut ∈ lw_good := gd3 184 rfl rfl
theorem wd_717 : Cond.instanceMethod yX11_cut ∈ lw_good := gd3 185 rfl rfl
theorem wd_718 : Cond.selects RX11 yX11_cut yX11_cut ∈ lw_good := gd3 186 rfl rfl
theorem wd_719 : Cond.code yX11_cut cX11_cut 7 (some .int) ∈ lw_good := gd3 187 rfl rfl
theorem wd_720 : Cond.methodLink RX11 188 yX2_dropChain ∈ lw_good := gd3 188 rfl rfl
theorem wd_721 : Cond.instanceMethod yX2_dropChain ∈ lw_good := gd3 189 rfl rfl
theorem wd_722 : Cond.selects RX2 yX2_dropChain yX2_dropChain ∈ lw_good := gd3 190 rfl rfl
theorem wd_723 : Cond.code yX2_dropChain cX2_dropChain 3 (none) ∈ lw_good := gd3 191 rfl rfl
theorem wd_724 : Cond.methodLink RL 93 yX11_tie ∈ lw_good := gd3 192 rfl rfl
theorem wd_725 : Cond.instanceMethod yX11_tie ∈ lw_good := gd3 193 rfl rfl
theorem wd_726 : Cond.selects RX11 yX11_tie yX11_tie ∈ lw_good := gd3 194 rfl rfl
theorem wd_727 : Cond.code yX11_tie cX11_tie 9 (some .int) ∈ lw_good := gd3 195 rfl rfl
theorem wd_728 : Cond.methodLink RL 97 yX11_stone ∈ lw_good := gd3 196 rfl rfl
theorem wd_729 : Cond.instanceMethod yX11_stone ∈ lw_good := gd3 197 rfl rfl
theorem wd_730 : Cond.selects RX11 yX11_stone yX11_stone ∈ lw_good := gd3 198 rfl rfl
theorem wd_731 : Cond.code yX11_stone cX11_stone 8 (some .int) ∈ lw_good := gd3 199 rfl rfl
theorem wd_732 : Cond.methodLink RX11 194 yX11_isStone ∈ lw_good := gd3 200 rfl rfl
theorem wd_733 : Cond.static yX11_isStone ∈ lw_good := gd3 201 rfl rfl
theorem wd_734 : Cond.code yX11_isStone cX11_isStone 1 (some .boolean) ∈ lw_good := gd3 202 rfl rfl
theorem wd_735 : Cond.methodLink RX11 197 yX2_addStones ∈ lw_good := gd3 203 rfl rfl
theorem wd_736 : Cond.instanceMethod yX2_addStones ∈ lw_good := gd3 204 rfl rfl
theorem wd_737 : Cond.selects RX2 yX2_addStones yX2_addStones ∈ lw_good := gd3 205 rfl rfl
theorem wd_738 : Cond.code yX2_addStones cX2_addStones 4 (none) ∈ lw_good := gd3 206 rfl rfl
theorem wd_739 : Cond.methodLink RL 101 yX11_keep ∈ lw_good := gd3 207 rfl rfl
theorem wd_740 : Cond.instanceMethod yX11_keep ∈ lw_good := gd3 208 rfl rfl
theorem wd_741 : Cond.selects RX11 yX11_keep yX11_keep ∈ lw_good := gd3 209 rfl rfl
theorem wd_742 : Cond.code yX11_keep cX11_keep 6 (some .int) ∈ lw_good := gd3 210 rfl rfl
theorem wd_743 : Cond.methodLink RX11 200 yX2_leaveAlone ∈ lw_good := gd3 211 rfl rfl
theorem wd_744 : Cond.instanceMethod yX2_leaveAlone ∈ lw_good := gd3 212 rfl rfl
theorem wd_745 : Cond.selects RX2 yX2_leaveAlone yX2_leaveAlone ∈ lw_good := gd3 213 rfl rfl
theorem wd_746 : Cond.code yX2_leaveAlone cX2_leaveAlone 2 (none) ∈ lw_good := gd3 214 rfl rfl
theorem wd_747 : Cond.methodLink RL 105 yX11_wet ∈ lw_good := gd3 215 rfl rfl
theorem wd_748 : Cond.instanceMethod yX11_wet ∈ lw_good := gd3 216 rfl rfl
theorem wd_749 : Cond.selects RX11 yX11_wet yX11_wet ∈ lw_good := gd3 217 rfl rfl
theorem wd_750 : Cond.code yX11_wet cX11_wet 6 (some .int) ∈ lw_good := gd3 218 rfl rfl
theorem wd_751 : Cond.methodLink RX11 203 yX11_rowsOf ∈ lw_good := gd3 219 rfl rfl
theorem wd_752 : Cond.static yX11_rowsOf ∈ lw_good := gd3 220 rfl rfl
theorem wd_753 : Cond.code yX11_rowsOf cX11_rowsOf 10 (some .int) ∈ lw_good := gd3 221 rfl rfl
theorem wd_754 : Cond.methodLink RL 110 yX11_image ∈ lw_good := gd3 222 rfl rfl
theorem wd_755 : Cond.instanceMethod yX11_image ∈ lw_good := gd3 223 rfl rfl
theorem wd_756 : Cond.selects RX11 yX11_image yX11_image ∈ lw_good := gd3 224 rfl rfl
theorem wd_757 : Cond.code yX11_image cX11_image 2 (some .int) ∈ lw_good := gd3 225 rfl rfl
theorem wd_758 : Cond.methodLink RX11 207 yX11_isImage ∈ lw_good := gd3 226 rfl rfl
theorem wd_759 : Cond.static yX11_isImage ∈ lw_good := gd3 227 rfl rfl
theorem wd_760 : Cond.code yX11_isImage cX11_isImage 1 (some .boolean) ∈ lw_good := gd3 228 rfl rfl
theorem wd_761 : Cond.methodLink RL 114 yX11_from ∈ lw_good := gd3 229 rfl rfl
theorem wd_762 : Cond.instanceMethod yX11_from ∈ lw_good := gd3 230 rfl rfl
theorem wd_763 : Cond.selects RX11 yX11_from yX11_from ∈ lw_good := gd3 231 rfl rfl
theorem wd_764 : Cond.code yX11_from cX11_from 2 (some .int) ∈ lw_good := gd3 232 rfl rfl
theorem wd_765 : Cond.methodLink RL 118 yX11_status ∈ lw_good := gd3 233 rfl rfl
theorem wd_766 : Cond.instanceMethod yX11_status ∈ lw_good := gd3 234 rfl rfl
theorem wd_767 : Cond.selects RX11 yX11_status yX11_status ∈ lw_good := gd3 235 rfl rfl
theorem wd_768 : Cond.code yX11_status cX11_status 2 (some .int) ∈ lw_good := gd3 236 rfl rfl
theorem wd_769 : Cond.methodLink RL 122 yX11_count ∈ lw_good := gd3 237 rfl rfl
theorem wd_770 : Cond.instanceMethod yX11_count ∈ lw_good := gd3 238 rfl rfl
theorem wd_771 : Cond.selects RX11 yX11_count yX11_count ∈ lw_good := gd3 239 rfl rfl
theorem wd_772 : Cond.code yX11_count cX11_count 2 (some .int) ∈ lw_good := gd4 0 rfl rfl
theorem wd_773 : Cond.methodLink RL 126 yX11_digest ∈ lw_good := gd4 1 rfl rfl
theorem wd_774 : Cond.instanceMethod yX11_digest ∈ lw_good := gd4 2 rfl rfl
theorem wd_775 : Cond.selects RX11 yX11_digest yX11_digest ∈ lw_good := gd4 3 rfl rfl
theorem wd_776 : Cond.code yX11_digest cX11_digest 3 (some .long) ∈ lw_good := gd4 4 rfl rfl
theorem wd_779 : Cond.methodLink RX11 229 yX2_digestOn ∈ lw_good := gd4 7 rfl rfl
theorem wd_780 : Cond.instanceMethod yX2_digestOn ∈ lw_good := gd4 8 rfl rfl
theorem wd_781 : Cond.selects RX2 yX2_digestOn yX2_digestOn ∈ lw_good := gd4 9 rfl rfl
theorem wd_782 : Cond.code yX2_digestOn cX2_digestOn 6 (some .long) ∈ lw_good := gd4 10 rfl rfl
theorem wd_863 : Cond.methodLink RL 17 yX12_bridge ∈ lw_good := gd4 91 rfl rfl
theorem wd_864 : Cond.instanceMethod yX12_bridge ∈ lw_good := gd4 92 rfl rfl
theorem wd_865 : Cond.selects RX12 yX12_bridge yX12_bridge ∈ lw_good := gd4 93 rfl rfl
theorem wd_866 : Cond.code yX12_bridge cX12_bridge 5 (some .int) ∈ lw_good := gd4 94 rfl rfl
theorem wd_867 : Cond.methodLink RX12 79 yX12_addBridge ∈ lw_good := gd4 95 rfl rfl
theorem wd_869 : Cond.instanceMethod yX12_addBridge ∈ lw_good := gd4 97 rfl rfl
theorem wd_870 : Cond.code yX12_addBridge cX12_addBridge 7 (some .int) ∈ lw_good := gd4 98 rfl rfl
theorem wd_872 : Cond.methodLink RX12 62 yX12_in ∈ lw_good := gd4 100 rfl rfl
theorem wd_873 : Cond.static yX12_in ∈ lw_good := gd4 101 rfl rfl
theorem wd_874 : Cond.code yX12_in cX12_in 6 (some .boolean) ∈ lw_good := gd4 102 rfl rfl
theorem wd_876 : Cond.methodLink RX12 56 yX12_met ∈ lw_good := gd4 104 rfl rfl
theorem wd_878 : Cond.instanceMethod yX12_met ∈ lw_good := gd4 106 rfl rfl
theorem wd_879 : Cond.code yX12_met cX12_met 2 (some .int) ∈ lw_good := gd4 107 rfl rfl
theorem wd_880 : Cond.methodLink RL 22 yX12_chain ∈ lw_good := gd4 108 rfl rfl
theorem wd_881 : Cond.instanceMethod yX12_chain ∈ lw_good := gd4 109 rfl rfl
theorem wd_882 : Cond.selects RX12 yX12_chain yX12_chain ∈ lw_good := gd4 110 rfl rfl
theorem wd_883 : Cond.code yX12_chain cX12_chain 4 (some .int) ∈ lw_good := gd4 111 rfl rfl
theorem wd_884 : Cond.methodLink RX12 83 yX12_addChain ∈ lw_good := gd4 112 rfl rfl
theorem wd_886 : Cond.instanceMethod yX12_addChain ∈ lw_good := gd4 114 rfl rfl
theorem wd_887 : Cond.code yX12_addChain cX12_addChain 6 (some .int) ∈ lw_good := gd4 115 rfl rfl
theorem wd_888 : Cond.methodLink RX12 68 yX12_isBridge ∈ lw_good := gd4 116 rfl rfl
theorem wd_890 : Cond.instanceMethod yX12_isBridge ∈ lw_good := gd4 118 rfl rfl
theorem wd_891 : Cond.code yX12_isBridge cX12_isBridge 3 (some .boolean) ∈ lw_good := gd4 119 rfl rfl
theorem wd_893 : Cond.methodLink RX12 74 yX12_isTied ∈ lw_good := gd4 121 rfl rfl
theorem wd_895 : Cond.instanceMethod yX12_isTied ∈ lw_good := gd4 123 rfl rfl
theorem wd_896 : Cond.code yX12_isTied cX12_isTied 5 (some .boolean) ∈ lw_good := gd4 124 rfl rfl
theorem wd_897 : Cond.methodLink RL 27 yX12_load ∈ lw_good := gd4 125 rfl rfl
theorem wd_898 : Cond.instanceMethod yX12_load ∈ lw_good := gd4 126 rfl rfl
theorem wd_899 : Cond.selects RX12 yX12_load yX12_load ∈ lw_good := gd4 127 rfl rfl
theorem wd_900 : Cond.code yX12_load cX12_load 3 (some .int) ∈ lw_good := gd4 128 rfl rfl
theorem wd_901 : Cond.methodLink RX12 87 yX12_setLoad ∈ lw_good := gd4 129 rfl rfl
theorem wd_903 : Cond.instanceMethod yX12_setLoad ∈ lw_good := gd4 131 rfl rfl
theorem wd_904 : Cond.code yX12_setLoad cX12_setLoad 5 (some .int) ∈ lw_good := gd4 132 rfl rfl
theorem wd_906 : Cond.methodLink RL 31 yX12_one ∈ lw_good := gd4 134 rfl rfl
theorem wd_907 : Cond.instanceMethod yX12_one ∈ lw_good := gd4 135 rfl rfl
theorem wd_908 : Cond.selects RX12 yX12_one yX12_one ∈ lw_good := gd4 136 rfl rfl
theorem wd_909 : Cond.code yX12_one cX12_one 3 (some .int) ∈ lw_good := gd4 137 rfl rfl
theorem wd_910 : Cond.methodLink RX12 91 yX12_addOne ∈ lw_good := gd4 138 rfl rfl
theorem wd_912 : Cond.instanceMethod yX12_addOne ∈ lw_good := gd4 140 rfl rfl
theorem wd_913 : Cond.code yX12_addOne cX12_addOne 5 (some .int) ∈ lw_good := gd4 141 rfl rfl
theorem wd_914 : Cond.methodLink RL 36 yX12_weight ∈ lw_good := gd4 142 rfl rfl
theorem wd_915 : Cond.instanceMethod yX12_weight ∈ lw_good := gd4 143 rfl rfl
theorem wd_916 : Cond.selects RX12 yX12_weight yX12_weight ∈ lw_good := gd4 144 rfl rfl
theorem wd_917 : Cond.code yX12_weight cX12_weight 2 (some .int) ∈ lw_good := gd4 145 rfl rfl
theorem wd_918 : Cond.methodLink RX12 121 yX12_bad ∈ lw_good := gd4 146 rfl rfl
theorem wd_920 : Cond.instanceMethod yX12_bad ∈ lw_good := gd4 148 rfl rfl
theorem wd_921 : Cond.code yX12_bad cX12_bad 1 (some .int) ∈ lw_good := gd4 149 rfl rfl
theorem wd_922 : Cond.methodLink RX12 125 yX12_layNow ∈ lw_good := gd4 150 rfl rfl
theorem wd_924 : Cond.instanceMethod yX12_layNow ∈ lw_good := gd4 152 rfl rfl
theorem wd_925 : Cond.code yX12_layNow cX12_layNow 2 (none) ∈ lw_good := gd4 153 rfl rfl
theorem wd_926 : Cond.methodLink RX12 98 yX12_tieMore ∈ lw_good := gd4 154 rfl rfl
theorem wd_928 : Cond.instanceMethod yX12_tieMore ∈ lw_good := gd4 156 rfl rfl
theorem wd_929 : Cond.code yX12_tieMore cX12_tieMore 4 (none) ∈ lw_good := gd4 157 rfl rfl
theorem wd_930 : Cond.methodLink RX12 128 yX12_asNow ∈ lw_good := gd4 158 rfl rfl
theorem wd_932 : Cond.instanceMethod yX12_asNow ∈ lw_good := gd4 160 rfl rfl
theorem wd_933 : Cond.code yX12_asNow cX12_asNow 2 (none) ∈ lw_good := gd4 161 rfl rfl
theorem wd_934 : Cond.methodLink RX12 105 yX12_has ∈ lw_good := gd4 162 rfl rfl
theorem wd_935 : Cond.static yX12_has ∈ lw_good := gd4 163 rfl rfl
theorem wd_936 : Cond.code yX12_has cX12_has 2 (some .boolean) ∈ lw_good := gd4 164 rfl rfl
theorem wd_937 : Cond.methodLink RX12 111 yX12_loadOf ∈ lw_good := gd4 165 rfl rfl
theorem wd_939 : Cond.instanceMethod yX12_loadOf ∈ lw_good := gd4 167 rfl rfl
theorem wd_940 : Cond.code yX12_loadOf cX12_loadOf 4 (some .int) ∈ lw_good := gd4 168 rfl rfl
theorem wd_941 : Cond.methodLink RL 40 yX12_where ∈ lw_good := gd4 169 rfl rfl
theorem wd_942 : Cond.instanceMethod yX12_where ∈ lw_good := gd4 170 rfl rfl
theorem wd_943 : Cond.selects RX12 yX12_where yX12_where ∈ lw_good := gd4 171 rfl rfl
theorem wd_944 : Cond.code yX12_where cX12_where 2 (some .int) ∈ lw_good := gd4 172 rfl rfl
theorem wd_945 : Cond.methodLink RX12 131 yX12_isOne ∈ lw_good := gd4 173 rfl rfl
theorem wd_947 : Cond.instanceMethod yX12_isOne ∈ lw_good := gd4 175 rfl rfl
theorem wd_948 : Cond.code yX12_isOne cX12_isOne 2 (some .boolean) ∈ lw_good := gd4 176 rfl rfl
theorem wd_949 : Cond.methodLink RL 45 yX12_lying ∈ lw_good := gd4 177 rfl rfl
theorem wd_950 : Cond.instanceMethod yX12_lying ∈ lw_good := gd4 178 rfl rfl
theorem wd_951 : Cond.selects RX12 yX12_lying yX12_lying ∈ lw_good := gd4 179 rfl rfl
theorem wd_952 : Cond.code yX12_lying cX12_lying 1 (some .int) ∈ lw_good := gd4 180 rfl rfl
theorem wd_953 : Cond.methodLink RL 52 yX12_type ∈ lw_good := gd4 181 rfl rfl
theorem wd_954 : Cond.instanceMethod yX12_type ∈ lw_good := gd4 182 rfl rfl
theorem wd_955 : Cond.selects RX12 yX12_type yX12_type ∈ lw_good := gd4 183 rfl rfl
theorem wd_956 : Cond.code yX12_type cX12_type 5 (some .int) ∈ lw_good := gd4 184 rfl rfl
theorem wd_959 : Cond.methodLink RL 56 yX12_clear ∈ lw_good := gd4 187 rfl rfl
theorem wd_960 : Cond.instanceMethod yX12_clear ∈ lw_good := gd4 188 rfl rfl
theorem wd_961 : Cond.selects RX12 yX12_clear yX12_clear ∈ lw_good := gd4 189 rfl rfl
theorem wd_962 : Cond.code yX12_clear cX12_clear 2 (some .int) ∈ lw_good := gd4 190 rfl rfl
theorem wd_963 : Cond.methodLink RL 60 yX12_read ∈ lw_good := gd4 191 rfl rfl
theorem wd_964 : Cond.instanceMethod yX12_read ∈ lw_good := gd4 192 rfl rfl
theorem wd_965 : Cond.selects RX12 yX12_read yX12_read ∈ lw_good := gd4 193 rfl rfl
theorem wd_966 : Cond.code yX12_read cX12_read 2 (some .int) ∈ lw_good := gd4 194 rfl rfl
theorem wd_967 : Cond.methodLink RX12 155 yX12_isEnd ∈ lw_good := gd4 195 rfl rfl
theorem wd_969 : Cond.instanceMethod yX12_isEnd ∈ lw_good := gd4 197 rfl rfl
theorem wd_970 : Cond.code yX12_isEnd cX12_isEnd 1 (some .boolean) ∈ lw_good := gd4 198 rfl rfl
theorem wd_971 : Cond.methodLink RX12 184 yX12_takeItem ∈ lw_good := gd4 199 rfl rfl
theorem wd_973 : Cond.instanceMethod yX12_takeItem ∈ lw_good := gd4 201 rfl rfl
theorem wd_974 : Cond.code yX12_takeItem cX12_takeItem 6 (none) ∈ lw_good := gd4 202 rfl rfl
theorem wd_979 : Cond.methodLink RX12 174 yX12_wordOf ∈ lw_good := gd4 207 rfl rfl
theorem wd_980 : Cond.static yX12_wordOf ∈ lw_good := gd4 208 rfl rfl
theorem wd_981 : Cond.code yX12_wordOf cX12_wordOf 2 (some .int) ∈ lw_good := gd4 209 rfl rfl
theorem wd_987 : Cond.methodLink RX12 181 yX12_takeNumber ∈ lw_good := gd4 215 rfl rfl
theorem wd_989 : Cond.instanceMethod yX12_takeNumber ∈ lw_good := gd4 217 rfl rfl
theorem wd_990 : Cond.code yX12_takeNumber cX12_takeNumber 3 (some .int) ∈ lw_good := gd4 218 rfl rfl
theorem wd_993 : Cond.methodLink RX12 187 yX12_tellItem ∈ lw_good := gd4 221 rfl rfl
theorem wd_995 : Cond.instanceMethod yX12_tellItem ∈ lw_good := gd4 223 rfl rfl
theorem wd_996 : Cond.code yX12_tellItem cX12_tellItem 5 (some .int) ∈ lw_good := gd4 224 rfl rfl
theorem wd_997 : Cond.methodLink RX12 190 yX12_copy ∈ lw_good := gd4 225 rfl rfl
theorem wd_999 : Cond.instanceMethod yX12_copy ∈ lw_good := gd4 227 rfl rfl
theorem wd_1000 : Cond.code yX12_copy cX12_copy 4 (none) ∈ lw_good := gd4 228 rfl rfl
theorem wd_1001 : Cond.methodLink RL 64 yX12_step ∈ lw_good := gd4 229 rfl rfl
theorem wd_1002 : Cond.instanceMethod yX12_step ∈ lw_good := gd4 230 rfl rfl
theorem wd_1003 : Cond.selects RX12 yX12_step yX12_step ∈ lw_good := gd4 231 rfl rfl
theorem wd_1004 : Cond.code yX12_step cX12_step 5 (some .int) ∈ lw_good := gd4 232 rfl rfl
theorem wd_1005 : Cond.methodLink RX12 193 yX12_isPlace ∈ lw_good := gd4 233 rfl rfl
theorem wd_1007 : Cond.instanceMethod yX12_isPlace ∈ lw_good := gd4 235 rfl rfl
theorem wd_1008 : Cond.code yX12_isPlace cX12_isPlace 2 (some .boolean) ∈ lw_good := gd4 236 rfl rfl
theorem wd_1009 : Cond.methodLink RX12 196 yX12_mayStep ∈ lw_good := gd4 237 rfl rfl
theorem wd_1011 : Cond.instanceMethod yX12_mayStep ∈ lw_good := gd4 239 rfl rfl
theorem wd_1012 : Cond.code yX12_mayStep cX12_mayStep 6 (some .boolean) ∈ lw_good := gd5 0 rfl rfl
theorem wd_1013 : Cond.methodLink RX12 118 yX12_isOf ∈ lw_good := gd5 1 rfl rfl
theorem wd_1015 : Cond.instanceMethod yX12_isOf ∈ lw_good := gd5 3 rfl rfl
theorem wd_1016 : Cond.code yX12_isOf cX12_isOf 3 (some .boolean) ∈ lw_good := gd5 4 rfl rfl
theorem wd_1017 : Cond.methodLink RX12 199 yX12_tipAll ∈ lw_good := gd5 5 rfl rfl
theorem wd_1019 : Cond.instanceMethod yX12_tipAll ∈ lw_good := gd5 7 rfl rfl
theorem wd_1020 : Cond.code yX12_tipAll cX12_tipAll 3 (none) ∈ lw_good := gd5 8 rfl rfl
theorem wd_1021 : Cond.methodLink RX12 114 yX12_tip ∈ lw_good := gd5 9 rfl rfl
theorem wd_1023 : Cond.instanceMethod yX12_tip ∈ lw_good := gd5 11 rfl rfl
theorem wd_1024 : Cond.code yX12_tip cX12_tip 5 (none) ∈ lw_good := gd5 12 rfl rfl
theorem wd_1025 : Cond.methodLink RL 68 yX12_undo ∈ lw_good := gd5 13 rfl rfl
theorem wd_1026 : Cond.instanceMethod yX12_undo ∈ lw_good := gd5 14 rfl rfl
theorem wd_1027 : Cond.selects RX12 yX12_undo yX12_undo ∈ lw_good := gd5 15 rfl rfl
theorem wd_1028 : Cond.code yX12_undo cX12_undo 3 (some .int) ∈ lw_good := gd5 16 rfl rfl
theorem wd_1029 : Cond.methodLink RL 72 yX12_way ∈ lw_good := gd5 17 rfl rfl
theorem wd_1030 : Cond.instanceMethod yX12_way ∈ lw_good := gd5 18 rfl rfl
theorem wd_1031 : Cond.selects RX12 yX12_way yX12_way ∈ lw_good := gd5 19 rfl rfl
theorem wd_1032 : Cond.code yX12_way cX12_way 7 (some .int) ∈ lw_good := gd5 20 rfl rfl
theorem wd_1033 : Cond.methodLink RX12 223 yX12_areSome ∈ lw_good := gd5 21 rfl rfl
theorem wd_1035 : Cond.instanceMethod yX12_areSome ∈ lw_good := gd5 23 rfl rfl
theorem wd_1036 : Cond.code yX12_areSome cX12_areSome 2 (some .boolean) ∈ lw_good := gd5 24 rfl rfl
theorem wd_1037 : Cond.methodLink RX12 226 yX12_isRoom ∈ lw_good := gd5 25 rfl rfl
theorem wd_1038 : Cond.static yX12_isRoom ∈ lw_good := gd5 26 rfl rfl
theorem wd_1039 : Cond.code yX12_isRoom cX12_isRoom 1 (some .boolean) ∈ lw_good := gd5 27 rfl rfl
theorem wd_1040 : Cond.methodLink RX12 215 yX12_findWay ∈ lw_good := gd5 28 rfl rfl
theorem wd_1042 : Cond.instanceMethod yX12_findWay ∈ lw_good := gd5 30 rfl rfl
theorem wd_1043 : Cond.code yX12_findWay cX12_findWay 6 (some .int) ∈ lw_good := gd5 31 rfl rfl
theorem wd_1044 : Cond.methodLink RX12 212 yX12_goAll ∈ lw_good := gd5 32 rfl rfl
theorem wd_1046 : Cond.instanceMethod yX12_goAll ∈ lw_good := gd5 34 rfl rfl
theorem wd_1047 : Cond.code yX12_goAll cX12_goAll 5 (none) ∈ lw_good := gd5 35 rfl rfl
theorem wd_1048 : Cond.methodLink RX12 202 yX12_codeNow ∈ lw_good := gd5 36 rfl rfl
theorem wd_1050 : Cond.instanceMethod yX12_codeNow ∈ lw_good := gd5 38 rfl rfl
theorem wd_1051 : Cond.code yX12_codeNow cX12_codeNow 1 (some .int) ∈ lw_good := gd5 39 rfl rfl
theorem wd_1052 : Cond.methodLink RX12 208 yX12_decode ∈ lw_good := gd5 40 rfl rfl
theorem wd_1054 : Cond.instanceMethod yX12_decode ∈ lw_good := gd5 42 rfl rfl
theorem wd_1055 : Cond.code yX12_decode cX12_decode 2 (none) ∈ lw_good := gd5 43 rfl rfl
theorem wd_1056 : Cond.methodLink RX12 220 yX12_stepsTo ∈ lw_good := gd5 44 rfl rfl
theorem wd_1058 : Cond.instanceMethod yX12_stepsTo ∈ lw_good := gd5 46 rfl rfl
theorem wd_1059 : Cond.code yX12_stepsTo cX12_stepsTo 4 (some .int) ∈ lw_good := gd5 47 rfl rfl
theorem wd_1060 : Cond.methodLink RL 76 yX12_reach ∈ lw_good := gd5 48 rfl rfl
theorem wd_1061 : Cond.instanceMethod yX12_reach ∈ lw_good := gd5 49 rfl rfl
theorem wd_1062 : Cond.selects RX12 yX12_reach yX12_reach ∈ lw_good := gd5 50 rfl rfl
theorem wd_1063 : Cond.code yX12_reach cX12_reach 6 (some .int) ∈ lw_good := gd5 51 rfl rfl
theorem wd_1065 : Cond.methodLink RX12 234 yX12_allLyings ∈ lw_good := gd5 53 rfl rfl
theorem wd_1067 : Cond.instanceMethod yX12_allLyings ∈ lw_good := gd5 55 rfl rfl
theorem wd_1068 : Cond.code yX12_allLyings cX12_allLyings 1 (some .int) ∈ lw_good := gd5 56 rfl rfl
theorem wd_1069 : Cond.methodLink RX12 229 yX12_lyings ∈ lw_good := gd5 57 rfl rfl
theorem wd_1071 : Cond.instanceMethod yX12_lyings ∈ lw_good := gd5 59 rfl rfl
theorem wd_1072 : Cond.code yX12_lyings cX12_lyings 3 (some .int) ∈ lw_good := gd5 60 rfl rfl
theorem wd_1073 : Cond.methodLink RX12 237 yX12_many ∈ lw_good := gd5 61 rfl rfl
theorem wd_1074 : Cond.static yX12_many ∈ lw_good := gd5 62 rfl rfl
theorem wd_1075 : Cond.code yX12_many cX12_many 3 (some .int) ∈ lw_good := gd5 63 rfl rfl
theorem wd_1076 : Cond.methodLink RL 80 yX12_can ∈ lw_good := gd5 64 rfl rfl
theorem wd_1077 : Cond.instanceMethod yX12_can ∈ lw_good := gd5 65 rfl rfl
theorem wd_1078 : Cond.selects RX12 yX12_can yX12_can ∈ lw_good := gd5 66 rfl rfl
theorem wd_1079 : Cond.code yX12_can cX12_can 2 (some .int) ∈ lw_good := gd5 67 rfl rfl
theorem wd_1080 : Cond.methodLink RL 84 yX12_closed ∈ lw_good := gd5 68 rfl rfl
theorem wd_1081 : Cond.instanceMethod yX12_closed ∈ lw_good := gd5 69 rfl rfl
theorem wd_1082 : Cond.selects RX12 yX12_closed yX12_closed ∈ lw_good := gd5 70 rfl rfl
theorem wd_1083 : Cond.code yX12_closed cX12_closed 6 (some .int) ∈ lw_good := gd5 71 rfl rfl
theorem wd_1084 : Cond.methodLink RL 88 yX12_child ∈ lw_good := gd5 72 rfl rfl
theorem wd_1085 : Cond.instanceMethod yX12_child ∈ lw_good := gd5 73 rfl rfl
theorem wd_1086 : Cond.selects RX12 yX12_child yX12_child ∈ lw_good := gd5 74 rfl rfl
theorem wd_1087 : Cond.code yX12_child cX12_child 3 (some .int) ∈ lw_good := gd5 75 rfl rfl
theorem wd_1088 : Cond.methodLink RL 92 yX12_cut ∈ lw_good := gd5 76 rfl rfl
theorem wd_1089 : Cond.instanceMethod yX12_cut ∈ lw_good := gd5 77 rfl rfl
theorem wd_1090 : Cond.selects RX12 yX12_cut yX12_cut ∈ lw_good := gd5 78 rfl rfl
theorem wd_1091 : Cond.code yX12_cut cX12_cut 7 (some .int) ∈ lw_good := gd5 79 rfl rfl
theorem wd_1092 : Cond.methodLink RX12 240 yX12_stepsOf ∈ lw_good := gd5 80 rfl rfl
theorem wd_1094 : Cond.instanceMethod yX12_stepsOf ∈ lw_good := gd5 82 rfl rfl
theorem wd_1095 : Cond.code yX12_stepsOf cX12_stepsOf 4 (some .int) ∈ lw_good := gd5 83 rfl rfl
theorem wd_1097 : Cond.methodLink RL 96 yX12_tie ∈ lw_good := gd5 85 rfl rfl
theorem wd_1098 : Cond.instanceMethod yX12_tie ∈ lw_good := gd5 86 rfl rfl
theorem wd_1099 : Cond.selects RX12 yX12_tie yX12_tie ∈ lw_good := gd5 87 rfl rfl
theorem wd_1100 : Cond.code yX12_tie cX12_tie 8 (some .int) ∈ lw_good := gd5 88 rfl rfl
theorem wd_1101 : Cond.methodLink RL 100 yX12_stone ∈ lw_good := gd5 89 rfl rfl
theorem wd_1102 : Cond.instanceMethod yX12_stone ∈ lw_good := gd5 90 rfl rfl
theorem wd_1103 : Cond.selects RX12 yX12_stone yX12_stone ∈ lw_good := gd5 91 rfl rfl
theorem wd_1104 : Cond.code yX12_stone cX12_stone 8 (some .int) ∈ lw_good := gd5 92 rfl rfl
theorem wd_1105 : Cond.methodLink RL 104 yX12_keep ∈ lw_good := gd5 93 rfl rfl
theorem wd_1106 : Cond.instanceMethod yX12_keep ∈ lw_good := gd5 94 rfl rfl
theorem wd_1107 : Cond.selects RX12 yX12_keep yX12_keep ∈ lw_good := gd5 95 rfl rfl
theorem wd_1108 : Cond.code yX12_keep cX12_keep 7 (some .int) ∈ lw_good := gd5 96 rfl rfl
theorem wd_1109 : Cond.methodLink RX12 243 yX12_ones ∈ lw_good := gd5 97 rfl rfl
theorem wd_1110 : Cond.static yX12_ones ∈ lw_good := gd5 98 rfl rfl
theorem wd_1111 : Cond.code yX12_ones cX12_ones 3 (some .int) ∈ lw_good := gd5 99 rfl rfl
theorem wd_1112 : Cond.methodLink RL 109 yX12_wet ∈ lw_good := gd5 100 rfl rfl
theorem wd_1113 : Cond.instanceMethod yX12_wet ∈ lw_good := gd5 101 rfl rfl
theorem wd_1114 : Cond.selects RX12 yX12_wet yX12_wet ∈ lw_good := gd5 102 rfl rfl
theorem wd_1115 : Cond.code yX12_wet cX12_wet 9 (some .int) ∈ lw_good := gd5 103 rfl rfl
theorem wd_1117 : Cond.methodLink RL 113 yX12_image ∈ lw_good := gd5 105 rfl rfl
theorem wd_1118 : Cond.instanceMethod yX12_image ∈ lw_good := gd5 106 rfl rfl
theorem wd_1119 : Cond.selects RX12 yX12_image yX12_image ∈ lw_good := gd5 107 rfl rfl
theorem wd_1120 : Cond.code yX12_image cX12_image 2 (some .int) ∈ lw_good := gd5 108 rfl rfl
theorem wd_1121 : Cond.methodLink RL 117 yX12_from ∈ lw_good := gd5 109 rfl rfl
theorem wd_1122 : Cond.instanceMethod yX12_from ∈ lw_good := gd5 110 rfl rfl
theorem wd_1123 : Cond.selects RX12 yX12_from yX12_from ∈ lw_good := gd5 111 rfl rfl
theorem wd_1124 : Cond.code yX12_from cX12_from 2 (some .int) ∈ lw_good := gd5 112 rfl rfl
theorem wd_1125 : Cond.methodLink RL 121 yX12_status ∈ lw_good := gd5 113 rfl rfl
theorem wd_1126 : Cond.instanceMethod yX12_status ∈ lw_good := gd5 114 rfl rfl
theorem wd_1127 : Cond.selects RX12 yX12_status yX12_status ∈ lw_good := gd5 115 rfl rfl
theorem wd_1128 : Cond.code yX12_status cX12_status 2 (some .int) ∈ lw_good := gd5 116 rfl rfl
theorem wd_1130 : Cond.methodLink RL 125 yX12_count ∈ lw_good := gd5 118 rfl rfl
theorem wd_1131 : Cond.instanceMethod yX12_count ∈ lw_good := gd5 119 rfl rfl
theorem wd_1132 : Cond.selects RX12 yX12_count yX12_count ∈ lw_good := gd5 120 rfl rfl
theorem wd_1133 : Cond.code yX12_count cX12_count 2 (some .int) ∈ lw_good := gd5 121 rfl rfl
theorem wd_1134 : Cond.methodLink RX12 249 yX12_countOf ∈ lw_good := gd5 122 rfl rfl
theorem wd_1136 : Cond.instanceMethod yX12_countOf ∈ lw_good := gd5 124 rfl rfl
theorem wd_1137 : Cond.code yX12_countOf cX12_countOf 2 (some .int) ∈ lw_good := gd5 125 rfl rfl
theorem wd_1138 : Cond.methodLink RL 130 yX12_digest ∈ lw_good := gd5 126 rfl rfl
theorem wd_1139 : Cond.instanceMethod yX12_digest ∈ lw_good := gd5 127 rfl rfl
theorem wd_1140 : Cond.selects RX12 yX12_digest yX12_digest ∈ lw_good := gd5 128 rfl rfl
theorem wd_1141 : Cond.code yX12_digest cX12_digest 2 (some .long) ∈ lw_good := gd5 129 rfl rfl
theorem wd_1143 : Cond.methodLink RX12 260 yX12_mix ∈ lw_good := gd5 131 rfl rfl
theorem wd_1145 : Cond.instanceMethod yX12_mix ∈ lw_good := gd5 133 rfl rfl
theorem wd_1146 : Cond.code yX12_mix cX12_mix 3 (none) ∈ lw_good := gd5 134 rfl rfl
theorem wd_1149 : Cond.sameMethod RX0 RX0 "loadBy" "(I)I" ∈ lw_good := gd5 137 rfl rfl
theorem sf_0 : SF 2 81 6 0 0 qX6_forget := ⟨fw5 wd_312 wd_313 wd_314 wd_61 wd_315, ⟨by decide +kernel, by decide +kernel⟩, by decide +kernel, rfl, plainFor_of_name (by decide +kernel), by decide, by decide +kernel, fun _ => ⟨rfl, by decide, rfl⟩, fun h => absurd h (by decide), fun h => absurd h (by decide), fun h => absurd h (by decide)⟩
theorem sf_1 : SF 2 90 6 0 1 qX6_take := ⟨fw5 wd_524 wd_525 wd_526 wd_61 wd_527, ⟨by decide +kernel, by decide +kernel⟩, by decide +kernel, rfl, plainFor_of_name (by decide +kernel), by decide, by decide +kernel, fun _ => ⟨rfl, by decide, rfl⟩, fun h => absurd h (by decide), fun h => absurd h (by decide), fun h => absurd h (by decide)⟩
theorem sf_2 : SF 2 94 99 3 1 qX11_isRoom := ⟨fw3 wd_310 wd_53 wd_311, ⟨by decide +kernel, by decide +kernel⟩, by decide +kernel, rfl, plainFor_of_name (by decide +kernel), by decide, by decide +kernel, fun h => absurd h (by decide), fun h => absurd h (by decide), fun _ => by decide +kernel, fun h => absurd h (by decide)⟩
theorem sf_3 : SF 2 98 2 0 1 qX2_isBridge := ⟨fw5 wd_328 wd_329 wd_330 wd_54 wd_331, ⟨by decide +kernel, by decide +kernel⟩, by decide +kernel, rfl, plainFor_of_name (by decide +kernel), by decide, by decide +kernel, fun _ => ⟨rfl, by decide, rfl⟩, fun h => absurd h (by decide), fun h => absurd h (by decide), fun h => absurd h (by decide)⟩
theorem sf_4 : SF 2 101 2 0 1 qX2_isTied := ⟨fw5 wd_332 wd_334 wd_1 wd_54 wd_335, ⟨by decide +kernel, by decide +kernel⟩, by decide +kernel, rfl, plainFor_of_name (by decide +kernel), by decide, by decide +kernel, fun _ => ⟨rfl, by decide, rfl⟩, fun h => absurd h (by decide), fun h => absurd h (by decide), fun h => absurd h (by decide)⟩
theorem sf_5 : SF 2 104 2 0 0 qX2_allBridges := ⟨fw5 wd_699 wd_679 wd_680 wd_54 wd_681, ⟨by decide +kernel, by decide +kernel⟩, by decide +kernel, rfl, plainFor_of_name (by decide +kernel), by decide, by decide +kernel, fun _ => ⟨rfl, by decide, rfl⟩, fun h => absurd h (by decide), fun h => absurd h (by decide), fun h => absurd h (by decide)⟩
theorem sf_6 : SF 2 108 2 0 2 qX2_joins := ⟨fw5 wd_552 wd_554 wd_9 wd_54 wd_555, ⟨by decide +kernel, by decide +kernel⟩, by decide +kernel, rfl, plainFor_of_name (by decide +kernel), by decide, by decide +kernel, fun _ => ⟨rfl, by decide, rfl⟩, fun h => absurd h (by decide), fun h => absurd h (by decide), fun h => absurd h (by decide)⟩
theorem sf_7 : SF 2 112 0 4 1 qX0_loadBy := ⟨fw8 wd_361 wd_364 wd_362 wd_365 wd_366 wd_57 wd_377 wd_367, ⟨by decide +kernel, by decide +kernel⟩, by decide +kernel, rfl, plainFor_of_name (by decide +kernel), by decide, by decide +kernel, fun h => absurd h (by decide), fun _ => ⟨by decide, rfl⟩, fun h => absurd h (by decide), fun h => absurd h (by decide)⟩
theorem sf_8 : SF 2 112 1 4 1 qX1_loadBy := ⟨fw8 wd_361 wd_364 wd_362 wd_368 wd_369 wd_56 wd_377 wd_370, ⟨by decide +kernel, by decide +kernel⟩, by decide +kernel, rfl, plainFor_of_name (by decide +kernel), by decide, by decide +kernel, fun h => absurd h (by decide), fun _ => ⟨by decide, rfl⟩, fun h => absurd h (by decide), fun h => absurd h (by decide)⟩
theorem sf_9 : SF 2 112 3 4 1 qX3_loadBy := ⟨fw8 wd_361 wd_364 wd_362 wd_371 wd_372 wd_60 wd_377 wd_373, ⟨by decide +kernel, by decide +kernel⟩, by decide +kernel, rfl, plainFor_of_name (by decide +kernel), by decide, by decide +kernel, fun h => absurd h (by decide), fun _ => ⟨by decide, rfl⟩, fun h => absurd h (by decide), fun h => absurd h (by decide)⟩
theorem sf_10 : SF 2 112 4 4 1 qX1_loadBy := ⟨fw8 wd_361 wd_364 wd_362 wd_375 wd_369 wd_56 wd_377 wd_370, ⟨by decide +kernel, by decide +kernel⟩, by decide +kernel, rfl, plainFor_of_name (by decide +kernel), by decide, by decide +kernel, fun h => absurd h (by decide), fun _ => ⟨by decide, rfl⟩, fun h => absurd h (by decide), fun h => absurd h (by decide)⟩
theorem sf_11 : SF 2 112 5 4 1 qX7_loadBy := ⟨fw8 wd_361 wd_364 wd_362 wd_376 wd_362 wd_55 wd_377 wd_377, ⟨by decide +kernel, by decide +kernel⟩, by decide +kernel, rfl, plainFor_of_name (by decide +kernel), by decide, by decide +kernel, fun h => absurd h (by decide), fun _ => ⟨by decide, rfl⟩, fun h => absurd h (by decide), fun h => absurd h (by decide)⟩
theorem sf_12 : SF 2 112 7 4 1 qX7_loadBy := ⟨fw8 wd_361 wd_364 wd_362 wd_363 wd_362 wd_55 wd_377 wd_377, ⟨by decide +kernel, by decide +kernel⟩, by decide +kernel, rfl, plainFor_of_name (by decide +kernel), by decide, by decide +kernel, fun h => absurd h (by decide), fun _ => ⟨by decide, rfl⟩, fun h => absurd h (by decide), fun h => absurd h (by decide)⟩
theorem sf_13 : SF 2 116 99 2 2 qJ9_min_7cf53 := ⟨fw4 wd_542 wd_543 wd_71 wd_544, ⟨by decide +kernel, by decide +kernel⟩, by decide +kernel, rfl, by decide +kernel, by decide, by decide +kernel, fun h => absurd h (by decide), fun h => absurd h (by decide), fun h => absurd h (by decide), fun h => absurd h (by decide)⟩
theorem sf_14 : SF 2 122 99 2 2 qJ9_max_7cf53 := ⟨fw4 wd_545 wd_546 wd_71 wd_547, ⟨by decide +kernel, by decide +kernel⟩, by decide +kernel, rfl, by decide +kernel, by decide, by decide +kernel, fun h => absurd h (by decide), fun h => absurd h (by decide), fun h => absurd h (by decide), fun h => absurd h (by decide)⟩
theorem sf_15 : SF 2 125 2 0 1 qX2_isDown := ⟨fw5 wd_548 wd_550 wd_8 wd_54 wd_551, ⟨by decide +kernel, by decide +kernel⟩, by decide +kernel, rfl, plainFor_of_name (by decide +kernel), by decide, by decide +kernel, fun _ => ⟨rfl, by decide, rfl⟩, fun h => absurd h (by decide), fun h => absurd h (by decide), fun h => absurd h (by decide)⟩
theorem sf_16 : SF 2 128 2 0 1 qX2_loadOn := ⟨fw5 wd_568 wd_358 wd_359 wd_54 wd_360, ⟨by decide +kernel, by decide +kernel⟩, by decide +kernel, rfl, plainFor_of_name (by decide +kernel), by decide, by decide +kernel, fun _ => ⟨rfl, by decide, rfl⟩, fun h => absurd h (by decide), fun h => absurd h (by decide), fun h => absurd h (by decide)⟩
theorem sf_17 : SF 2 131 2 0 2 qX2_tip := ⟨fw5 wd_569 wd_571 wd_10 wd_54 wd_572, ⟨by decide +kernel, by decide +kernel⟩, by decide +kernel, rfl, plainFor_of_name (by decide +kernel), by decide, by decide +kernel, fun _ => ⟨rfl, by decide, rfl⟩, fun h => absurd h (by decide), fun h => absurd h (by decide), fun h => absurd h (by decide)⟩
theorem sf_18 : SF 2 135 0 4 0 qX7_mayFall := ⟨fw8 wd_573 wd_576 wd_574 wd_577 wd_574 wd_55 wd_584 wd_584, ⟨by decide +kernel, by decide +kernel⟩, by decide +kernel, rfl, plainFor_of_name (by decide +kernel), by decide, by decide +kernel, fun h => absurd h (by decide), fun _ => ⟨by decide, rfl⟩, fun h => absurd h (by decide), fun h => absurd h (by decide)⟩
theorem sf_19 : SF 2 135 1 4 0 qX7_mayFall := ⟨fw8 wd_573 wd_576 wd_574 wd_578 wd_574 wd_55 wd_584 wd_584, ⟨by decide +kernel, by decide +kernel⟩, by decide +kernel, rfl, plainFor_of_name (by decide +kernel), by decide, by decide +kernel, fun h => absurd h (by decide), fun _ => ⟨by decide, rfl⟩, fun h => absurd h (by decide), fun h => absurd h (by decide)⟩
theorem sf_20 : SF 2 135 3 4 0 qX7_mayFall := ⟨fw8 wd_573 wd_576 wd_574 wd_579 wd_574 wd_55 wd_584 wd_584, ⟨by decide +kernel, by decide +kernel⟩, by decide +kernel, rfl, plainFor_of_name (by decide +kernel), by decide, by decide +kernel, fun h => absurd h (by decide), fun _ => ⟨by decide, rfl⟩, fun h => absurd h (by decide), fun h => absurd h (by decide)⟩
theorem sf_21 : SF 2 135 4 4 0 qX4_mayFall := ⟨fw8 wd_573 wd_576 wd_574 wd_580 wd_581 wd_59 wd_584 wd_582, ⟨by decide +kernel, by decide +kernel⟩, by decide +kernel, rfl, plainFor_of_name (by decide +kernel), by decide, by decide +kernel, fun h => absurd h (by decide), fun _ => ⟨by decide, rfl⟩, fun h => absurd h (by decide), fun h => absurd h (by decide)⟩
theorem sf_22 : SF 2 135 5 4 0 qX7_mayFall := ⟨fw8 wd_573 wd_576 wd_574 wd_583 wd_574 wd_55 wd_584 wd_584, ⟨by decide +kernel, by decide +kernel⟩, by decide +kernel, rfl, plainFor_of_name (by decide +kernel), by decide, by decide +kernel, fun h => absurd h (by decide), fun _ => ⟨by decide, rfl⟩, fun h => absurd h (by decide), fun h => absurd h (by decide)⟩
theorem sf_23 : SF 2 135 7 4 0 qX7_mayFall := ⟨fw8 wd_573 wd_576 wd_574 wd_575 wd_574 wd_55 wd_584 wd_584, ⟨by decide +kernel, by decide +kernel⟩, by decide +kernel, rfl, plainFor_of_name (by decide +kernel), by decide, by decide +kernel, fun h => absurd h (by decide), fun _ => ⟨by decide, rfl⟩, fun h => absurd h (by decide), fun h => absurd h (by decide)⟩
theorem sf_24 : SF 2 139 0 4 0 qX7_mayRise := ⟨fw8 wd_585 wd_588 wd_586 wd_589 wd_586 wd_55 wd_596 wd_596, ⟨by decide +kernel, by decide +kernel⟩, by decide +kernel, rfl, plainFor_of_name (by decide +kernel), by decide, by decide +kernel, fun h => absurd h (by decide), fun _ => ⟨by decide, rfl⟩, fun h => absurd h (by decide), fun h => absurd h (by decide)⟩
theorem sf_25 : SF 2 139 1 4 0 qX7_mayRise := ⟨fw8 wd_585 wd_588 wd_586 wd_590 wd_586 wd_55 wd_596 wd_596, ⟨by decide +kernel, by decide +kernel⟩, by decide +kernel, rfl, plainFor_of_name (by decide +kernel), by decide, by decide +kernel, fun h => absurd h (by decide), fun _ => ⟨by decide, rfl⟩, fun h => absurd h (by decide), fun h => absurd h (by decide)⟩
theorem sf_26 : SF 2 139 3 4 0 qX7_mayRise := ⟨fw8 wd_585 wd_588 wd_586 wd_591 wd_586 wd_55 wd_596 wd_596, ⟨by decide +kernel, by decide +kernel⟩, by decide +kernel, rfl, plainFor_of_name (by decide +kernel), by decide, by decide +kernel, fun h => absurd h (by decide), fun _ => ⟨by decide, rfl⟩, fun h => absurd h (by decide), fun h => absurd h (by decide)⟩
theorem sf_27 : SF 2 139 4 4 0 qX7_mayRise := ⟨fw8 wd_585 wd_588 wd_586 wd_592 wd_586 wd_55 wd_596 wd_596, ⟨by decide +kernel, by decide +kernel⟩, by decide +kernel, rfl, plainFor_of_name (by decide +kernel), by decide, by decide +kernel, fun h => absurd h (by decide), fun _ => ⟨by decide, rfl⟩, fun h => absurd h (by decide), fun h => absurd h (by decide)⟩
theorem sf_28 : SF 2 139 5 4 0 qX5_mayRise := ⟨fw8 wd_585 wd_588 wd_586 wd_593 wd_594 wd_58 wd_596 wd_595, ⟨by decide +kernel, by decide +kernel⟩, by decide +kernel, rfl, plainFor_of_name (by decide +kernel), by decide, by decide +kernel, fun h => absurd h (by decide), fun _ => ⟨by decide, rfl⟩, fun h => absurd h (by decide), fun h => absurd h (by decide)⟩
theorem sf_29 : SF 2 139 7 4 0 qX7_mayRise := ⟨fw8 wd_585 wd_588 wd_586 wd_587 wd_586 wd_55 wd_596 wd_596, ⟨by decide +kernel, by decide +kernel⟩, by decide +kernel, rfl, plainFor_of_name (by decide +kernel), by decide, by decide +kernel, fun h => absurd h (by decide), fun _ => ⟨by decide, rfl⟩, fun h => absurd h (by decide), fun h => absurd h (by decide)⟩
theorem sf_30 : SF 3 7 0 5 1 qX0_loadBy := ⟨fw6 wd_374 wd_1149 wd_130 wd_366 wd_57 wd_367, ⟨by decide +kernel, by decide +kernel⟩, by decide +kernel, rfl, plainFor_of_name (by decide +kernel), by decide, by decide +kernel, fun h => absurd h (by decide), fun h => absurd h (by decide), fun h => absurd h (by decide), fun _ => ⟨by decide, rfl⟩⟩
theorem sf_31 : SF 8 15 2 0 0 qX2_empty := ⟨fw5 wd_415 wd_416 wd_417 wd_54 wd_418, ⟨by decide +kernel, by decide +kernel⟩, by decide +kernel, rfl, plainFor_of_name (by decide +kernel), by decide, by decide +kernel, fun _ => ⟨rfl, by decide, rfl⟩, fun h => absurd h (by decide), fun h => absurd h (by decide), fun h => absurd h (by decide)⟩
theorem sf_32 : SF 8 20 10 0 0 qX10_lookAtFirst := ⟨fw5 wd_419 wd_420 wd_421 wd_62 wd_422, ⟨by decide +kernel, by decide +kernel⟩, by decide +kernel, rfl, plainFor_of_name (by decide +kernel), by decide, by decide +kernel, fun _ => ⟨rfl, by decide, rfl⟩, fun h => absurd h (by decide), fun h => absurd h (by decide), fun h => absurd h (by decide)⟩
theorem sf_33 : SF 8 29 8 0 1 qX8_readItem := ⟨fw5 wd_502 wd_504 wd_6 wd_63 wd_505, ⟨by decide +kernel, by decide +kernel⟩, by decide +kernel, rfl, plainFor_of_name (by decide +kernel), by decide, by decide +kernel, fun _ => ⟨rfl, by decide, rfl⟩, fun h => absurd h (by decide), fun h => absurd h (by decide), fun h => absurd h (by decide)⟩
theorem sf_34 : SF 8 36 8 0 1 qX8_tell := ⟨fw5 wd_509 wd_511 wd_7 wd_63 wd_512, ⟨by decide +kernel, by decide +kernel⟩, by decide +kernel, rfl, plainFor_of_name (by decide +kernel), by decide, by decide +kernel, fun _ => ⟨rfl, by decide, rfl⟩, fun h => absurd h (by decide), fun h => absurd h (by decide), fun h => absurd h (by decide)⟩
theorem sf_35 : SF 8 49 10 0 0 qX10_lookAtNext := ⟨fw5 wd_508 wd_424 wd_425 wd_62 wd_426, ⟨by decide +kernel, by decide +kernel⟩, by decide +kernel, rfl, plainFor_of_name (by decide +kernel), by decide, by decide +kernel, fun _ => ⟨rfl, by decide, rfl⟩, fun h => absurd h (by decide), fun h => absurd h (by decide), fun h => absurd h (by decide)⟩
theorem sf_36 : SF 8 52 2 0 4 qX2_addBridge := ⟨fw5 wd_513 wd_306 wd_307 wd_54 wd_308, ⟨by decide +kernel, by decide +kernel⟩, by decide +kernel, rfl, plainFor_of_name (by decide +kernel), by decide, by decide +kernel, fun _ => ⟨rfl, by decide, rfl⟩, fun h => absurd h (by decide), fun h => absurd h (by decide), fun h => absurd h (by decide)⟩
theorem sf_37 : SF 8 56 2 0 3 qX2_addChain := ⟨fw5 wd_514 wd_325 wd_326 wd_54 wd_327, ⟨by decide +kernel, by decide +kernel⟩, by decide +kernel, rfl, plainFor_of_name (by decide +kernel), by decide, by decide +kernel, fun _ => ⟨rfl, by decide, rfl⟩, fun h => absurd h (by decide), fun h => absurd h (by decide), fun h => absurd h (by decide)⟩
theorem sf_38 : SF 8 60 2 0 2 qX2_addPerson := ⟨fw5 wd_515 wd_349 wd_350 wd_54 wd_351, ⟨by decide +kernel, by decide +kernel⟩, by decide +kernel, rfl, plainFor_of_name (by decide +kernel), by decide, by decide +kernel, fun _ => ⟨rfl, by decide, rfl⟩, fun h => absurd h (by decide), fun h => absurd h (by decide), fun h => absurd h (by decide)⟩
theorem sf_39 : SF 8 64 2 0 2 qX2_setBallast := ⟨fw5 wd_516 wd_341 wd_342 wd_54 wd_343, ⟨by decide +kernel, by decide +kernel⟩, by decide +kernel, rfl, plainFor_of_name (by decide +kernel), by decide, by decide +kernel, fun _ => ⟨rfl, by decide, rfl⟩, fun h => absurd h (by decide), fun h => absurd h (by decide), fun h => absurd h (by decide)⟩
theorem sf_40 : SF 9 19 2 0 0 qX2_packed := ⟨fw5 wd_626 wd_557 wd_558 wd_54 wd_559, ⟨by decide +kernel, by decide +kernel⟩, by decide +kernel, rfl, plainFor_of_name (by decide +kernel), by decide, by decide +kernel, fun _ => ⟨rfl, by decide, rfl⟩, fun h => absurd h (by decide), fun h => absurd h (by decide), fun h => absurd h (by decide)⟩
theorem sf_41 : SF 9 25 9 0 1 qX9_begin := ⟨fw5 wd_627 wd_629 wd_12 wd_64 wd_630, ⟨by decide +kernel, by decide +kernel⟩, by decide +kernel, rfl, plainFor_of_name (by decide +kernel), by decide, by decide +kernel, fun _ => ⟨rfl, by decide, rfl⟩, fun h => absurd h (by decide), fun h => absurd h (by decide), fun h => absurd h (by decide)⟩
theorem sf_42 : SF 9 33 9 0 1 qX9_stateAt := ⟨fw5 wd_638 wd_640 wd_14 wd_64 wd_641, ⟨by decide +kernel, by decide +kernel⟩, by decide +kernel, rfl, plainFor_of_name (by decide +kernel), by decide, by decide +kernel, fun _ => ⟨rfl, by decide, rfl⟩, fun h => absurd h (by decide), fun h => absurd h (by decide), fun h => absurd h (by decide)⟩
theorem sf_43 : SF 9 37 2 0 1 qX2_unpack := ⟨fw5 wd_642 wd_606 wd_607 wd_54 wd_608, ⟨by decide +kernel, by decide +kernel⟩, by decide +kernel, rfl, plainFor_of_name (by decide +kernel), by decide, by decide +kernel, fun _ => ⟨rfl, by decide, rfl⟩, fun h => absurd h (by decide), fun h => absurd h (by decide), fun h => absurd h (by decide)⟩
theorem sf_44 : SF 9 40 2 0 2 qX2_areIn := ⟨fw5 wd_643 wd_644 wd_645 wd_54 wd_646, ⟨by decide +kernel, by decide +kernel⟩, by decide +kernel, rfl, plainFor_of_name (by decide +kernel), by decide, by decide +kernel, fun _ => ⟨rfl, by decide, rfl⟩, fun h => absurd h (by decide), fun h => absurd h (by decide), fun h => absurd h (by decide)⟩
theorem sf_45 : SF 9 47 9 0 2 qX9_goOn := ⟨fw5 wd_647 wd_649 wd_15 wd_64 wd_650, ⟨by decide +kernel, by decide +kernel⟩, by decide +kernel, rfl, plainFor_of_name (by decide +kernel), by decide, by decide +kernel, fun _ => ⟨rfl, by decide, rfl⟩, fun h => absurd h (by decide), fun h => absurd h (by decide), fun h => absurd h (by decide)⟩
theorem sf_46 : SF 9 51 99 2 2 qJ7_fill_d0a16 := ⟨fw4 wd_631 wd_632 wd_72 wd_633, ⟨by decide +kernel, by decide +kernel⟩, by decide +kernel, rfl, plainFor_of_name (by decide +kernel), by decide, by decide +kernel, fun h => absurd h (by decide), fun h => absurd h (by decide), fun h => absurd h (by decide), fun h => absurd h (by decide)⟩
theorem sf_47 : SF 9 60 9 0 2 qX9_note := ⟨fw5 wd_634 wd_636 wd_13 wd_64 wd_637, ⟨by decide +kernel, by decide +kernel⟩, by decide +kernel, rfl, plainFor_of_name (by decide +kernel), by decide, by decide +kernel, fun _ => ⟨rfl, by decide, rfl⟩, fun h => absurd h (by decide), fun h => absurd h (by decide), fun h => absurd h (by decide)⟩
theorem sf_48 : SF 9 73 2 0 2 qX2_canGo := ⟨fw5 wd_651 wd_539 wd_540 wd_54 wd_541, ⟨by decide +kernel, by decide +kernel⟩, by decide +kernel, rfl, plainFor_of_name (by decide +kernel), by decide, by decide +kernel, fun _ => ⟨rfl, by decide, rfl⟩, fun h => absurd h (by decide), fun h => absurd h (by decide), fun h => absurd h (by decide)⟩
theorem sf_49 : SF 9 76 2 0 2 qX2_go := ⟨fw5 wd_652 wd_565 wd_566 wd_54 wd_567, ⟨by decide +kernel, by decide +kernel⟩, by decide +kernel, rfl, plainFor_of_name (by decide +kernel), by decide, by decide +kernel, fun _ => ⟨rfl, by decide, rfl⟩, fun h => absurd h (by decide), fun h => absurd h (by decide), fun h => absurd h (by decide)⟩
theorem sf_50 : SF 9 79 9 0 1 qX9_before := ⟨fw5 wd_657 wd_659 wd_16 wd_64 wd_660, ⟨by decide +kernel, by decide +kernel⟩, by decide +kernel, rfl, plainFor_of_name (by decide +kernel), by decide, by decide +kernel, fun _ => ⟨rfl, by decide, rfl⟩, fun h => absurd h (by decide), fun h => absurd h (by decide), fun h => absurd h (by decide)⟩
theorem sf_51 : SF 9 82 99 2 2 qX9_stepBetween := ⟨fw4 wd_661 wd_662 wd_64 wd_663, ⟨by decide +kernel, by decide +kernel⟩, by decide +kernel, rfl, plainFor_of_name (by decide +kernel), by decide, by decide +kernel, fun h => absurd h (by decide), fun h => absurd h (by decide), fun h => absurd h (by decide), fun h => absurd h (by decide)⟩
theorem sf_52 : SF 10 24 10 0 0 qX10_lookAtNext := ⟨fw5 wd_423 wd_424 wd_425 wd_62 wd_426, ⟨by decide +kernel, by decide +kernel⟩, by decide +kernel, rfl, plainFor_of_name (by decide +kernel), by decide, by decide +kernel, fun _ => ⟨rfl, by decide, rfl⟩, fun h => absurd h (by decide), fun h => absurd h (by decide), fun h => absurd h (by decide)⟩
theorem sf_53 : SF 10 33 99 2 1 qX10_isLetter := ⟨fw4 wd_427 wd_428 wd_62 wd_429, ⟨by decide +kernel, by decide +kernel⟩, by decide +kernel, rfl, plainFor_of_name (by decide +kernel), by decide, by decide +kernel, fun h => absurd h (by decide), fun h => absurd h (by decide), fun h => absurd h (by decide), fun h => absurd h (by decide)⟩
theorem sf_54 : SF 10 37 10 0 0 qX10_takeWord := ⟨fw5 wd_430 wd_432 wd_2 wd_62 wd_433, ⟨by decide +kernel, by decide +kernel⟩, by decide +kernel, rfl, plainFor_of_name (by decide +kernel), by decide, by decide +kernel, fun _ => ⟨rfl, by decide, rfl⟩, fun h => absurd h (by decide), fun h => absurd h (by decide), fun h => absurd h (by decide)⟩
theorem sf_55 : SF 10 40 99 2 1 qX10_isFigure := ⟨fw4 wd_495 wd_496 wd_62 wd_497, ⟨by decide +kernel, by decide +kernel⟩, by decide +kernel, rfl, plainFor_of_name (by decide +kernel), by decide, by decide +kernel, fun h => absurd h (by decide), fun h => absurd h (by decide), fun h => absurd h (by decide), fun h => absurd h (by decide)⟩
theorem sf_56 : SF 10 43 10 0 0 qX10_takeNumber := ⟨fw5 wd_498 wd_500 wd_5 wd_62 wd_501, ⟨by decide +kernel, by decide +kernel⟩, by decide +kernel, rfl, plainFor_of_name (by decide +kernel), by decide, by decide +kernel, fun _ => ⟨rfl, by decide, rfl⟩, fun h => absurd h (by decide), fun h => absurd h (by decide), fun h => absurd h (by decide)⟩
theorem sf_57 : SF 10 46 10 0 0 qX10_itemOfWord := ⟨fw5 wd_434 wd_436 wd_3 wd_62 wd_437, ⟨by decide +kernel, by decide +kernel⟩, by decide +kernel, rfl, plainFor_of_name (by decide +kernel), by decide, by decide +kernel, fun _ => ⟨rfl, by decide, rfl⟩, fun h => absurd h (by decide), fun h => absurd h (by decide), fun h => absurd h (by decide)⟩
theorem sf_58 : SF 10 55 10 0 1 qX10_isWord := ⟨fw5 wd_439 wd_441 wd_4 wd_62 wd_442, ⟨by decide +kernel, by decide +kernel⟩, by decide +kernel, rfl, plainFor_of_name (by decide +kernel), by decide, by decide +kernel, fun _ => ⟨rfl, by decide, rfl⟩, fun h => absurd h (by decide), fun h => absurd h (by decide), fun h => absurd h (by decide)⟩
theorem sf_59 : SF 11 48 2 0 4 qX2_addBridge := ⟨fw5 wd_305 wd_306 wd_307 wd_54 wd_308, ⟨by decide +kernel, by decide +kernel⟩, by decide +kernel, rfl, plainFor_of_name (by decide +kernel), by decide, by decide +kernel, fun _ => ⟨rfl, by decide, rfl⟩, fun h => absurd h (by decide), fun h => absurd h (by decide), fun h => absurd h (by decide)⟩
theorem sf_60 : SF 11 52 11 0 1 qX11_counted := ⟨fw5 wd_316 wd_318 wd_0 wd_53 wd_319, ⟨by decide +kernel, by decide +kernel⟩, by decide +kernel, rfl, plainFor_of_name (by decide +kernel), by decide, by decide +kernel, fun _ => ⟨rfl, by decide, rfl⟩, fun h => absurd h (by decide), fun h => absurd h (by decide), fun h => absurd h (by decide)⟩
theorem sf_61 : SF 11 56 2 0 3 qX2_addChain := ⟨fw5 wd_324 wd_325 wd_326 wd_54 wd_327, ⟨by decide +kernel, by decide +kernel⟩, by decide +kernel, rfl, plainFor_of_name (by decide +kernel), by decide, by decide +kernel, fun _ => ⟨rfl, by decide, rfl⟩, fun h => absurd h (by decide), fun h => absurd h (by decide), fun h => absurd h (by decide)⟩
theorem sf_62 : SF 11 60 2 0 2 qX2_setBallast := ⟨fw5 wd_340 wd_341 wd_342 wd_54 wd_343, ⟨by decide +kernel, by decide +kernel⟩, by decide +kernel, rfl, plainFor_of_name (by decide +kernel), by decide, by decide +kernel, fun _ => ⟨rfl, by decide, rfl⟩, fun h => absurd h (by decide), fun h => absurd h (by decide), fun h => absurd h (by decide)⟩
theorem sf_63 : SF 11 64 2 0 2 qX2_addPerson := ⟨fw5 wd_348 wd_349 wd_350 wd_54 wd_351, ⟨by decide +kernel, by decide +kernel⟩, by decide +kernel, rfl, plainFor_of_name (by decide +kernel), by decide, by decide +kernel, fun _ => ⟨rfl, by decide, rfl⟩, fun h => absurd h (by decide), fun h => absurd h (by decide), fun h => absurd h (by decide)⟩
theorem sf_64 : SF 11 67 2 0 1 qX2_isBridge := ⟨fw5 wd_356 wd_329 wd_330 wd_54 wd_331, ⟨by decide +kernel, by decide +kernel⟩, by decide +kernel, rfl, plainFor_of_name (by decide +kernel), by decide, by decide +kernel, fun _ => ⟨rfl, by decide, rfl⟩, fun h => absurd h (by decide), fun h => absurd h (by decide), fun h => absurd h (by decide)⟩
theorem sf_65 : SF 11 71 2 0 1 qX2_loadOn := ⟨fw5 wd_357 wd_358 wd_359 wd_54 wd_360, ⟨by decide +kernel, by decide +kernel⟩, by decide +kernel, rfl, plainFor_of_name (by decide +kernel), by decide, by decide +kernel, fun _ => ⟨rfl, by decide, rfl⟩, fun h => absurd h (by decide), fun h => absurd h (by decide), fun h => absurd h (by decide)⟩
theorem sf_66 : SF 11 74 2 0 1 qX2_isPerson := ⟨fw5 wd_382 wd_383 wd_384 wd_54 wd_385, ⟨by decide +kernel, by decide +kernel⟩, by decide +kernel, rfl, plainFor_of_name (by decide +kernel), by decide, by decide +kernel, fun _ => ⟨rfl, by decide, rfl⟩, fun h => absurd h (by decide), fun h => absurd h (by decide), fun h => absurd h (by decide)⟩
theorem sf_67 : SF 11 85 10 0 2 qX10_append := ⟨fw5 wd_394 wd_395 wd_396 wd_62 wd_397, ⟨by decide +kernel, by decide +kernel⟩, by decide +kernel, rfl, plainFor_of_name (by decide +kernel), by decide, by decide +kernel, fun _ => ⟨rfl, by decide, rfl⟩, fun h => absurd h (by decide), fun h => absurd h (by decide), fun h => absurd h (by decide)⟩
theorem sf_68 : SF 11 89 10 0 0 qX10_wipe := ⟨fw5 wd_403 wd_404 wd_405 wd_62 wd_406, ⟨by decide +kernel, by decide +kernel⟩, by decide +kernel, rfl, plainFor_of_name (by decide +kernel), by decide, by decide +kernel, fun _ => ⟨rfl, by decide, rfl⟩, fun h => absurd h (by decide), fun h => absurd h (by decide), fun h => absurd h (by decide)⟩
theorem sf_69 : SF 11 93 8 0 2 qX8_readInto := ⟨fw5 wd_411 wd_412 wd_413 wd_63 wd_414, ⟨by decide +kernel, by decide +kernel⟩, by decide +kernel, rfl, plainFor_of_name (by decide +kernel), by decide, by decide +kernel, fun _ => ⟨rfl, by decide, rfl⟩, fun h => absurd h (by decide), fun h => absurd h (by decide), fun h => absurd h (by decide)⟩
theorem sf_70 : SF 11 97 2 0 1 qX2_take := ⟨fw5 wd_517 wd_518 wd_519 wd_54 wd_520, ⟨by decide +kernel, by decide +kernel⟩, by decide +kernel, rfl, plainFor_of_name (by decide +kernel), by decide, by decide +kernel, fun _ => ⟨rfl, by decide, rfl⟩, fun h => absurd h (by decide), fun h => absurd h (by decide), fun h => absurd h (by decide)⟩
theorem sf_71 : SF 11 101 2 0 1 qX2_isPlace := ⟨fw5 wd_534 wd_535 wd_536 wd_54 wd_537, ⟨by decide +kernel, by decide +kernel⟩, by decide +kernel, rfl, plainFor_of_name (by decide +kernel), by decide, by decide +kernel, fun _ => ⟨rfl, by decide, rfl⟩, fun h => absurd h (by decide), fun h => absurd h (by decide), fun h => absurd h (by decide)⟩
theorem sf_72 : SF 11 104 2 0 2 qX2_canGo := ⟨fw5 wd_538 wd_539 wd_540 wd_54 wd_541, ⟨by decide +kernel, by decide +kernel⟩, by decide +kernel, rfl, plainFor_of_name (by decide +kernel), by decide, by decide +kernel, fun _ => ⟨rfl, by decide, rfl⟩, fun h => absurd h (by decide), fun h => absurd h (by decide), fun h => absurd h (by decide)⟩
theorem sf_73 : SF 11 112 2 0 0 qX2_packed := ⟨fw5 wd_556 wd_557 wd_558 wd_54 wd_559, ⟨by decide +kernel, by decide +kernel⟩, by decide +kernel, rfl, plainFor_of_name (by decide +kernel), by decide, by decide +kernel, fun _ => ⟨rfl, by decide, rfl⟩, fun h => absurd h (by decide), fun h => absurd h (by decide), fun h => absurd h (by decide)⟩
theorem sf_74 : SF 11 115 6 0 1 qX6_push := ⟨fw5 wd_560 wd_561 wd_562 wd_61 wd_563, ⟨by decide +kernel, by decide +kernel⟩, by decide +kernel, rfl, plainFor_of_name (by decide +kernel), by decide, by decide +kernel, fun _ => ⟨rfl, by decide, rfl⟩, fun h => absurd h (by decide), fun h => absurd h (by decide), fun h => absurd h (by decide)⟩
theorem sf_75 : SF 11 121 2 0 2 qX2_go := ⟨fw5 wd_564 wd_565 wd_566 wd_54 wd_567, ⟨by decide +kernel, by decide +kernel⟩, by decide +kernel, rfl, plainFor_of_name (by decide +kernel), by decide, by decide +kernel, fun _ => ⟨rfl, by decide, rfl⟩, fun h => absurd h (by decide), fun h => absurd h (by decide), fun h => absurd h (by decide)⟩
theorem sf_76 : SF 11 128 6 0 0 qX6_pop := ⟨fw5 wd_601 wd_602 wd_603 wd_61 wd_604, ⟨by decide +kernel, by decide +kernel⟩, by decide +kernel, rfl, plainFor_of_name (by decide +kernel), by decide, by decide +kernel, fun _ => ⟨rfl, by decide, rfl⟩, fun h => absurd h (by decide), fun h => absurd h (by decide), fun h => absurd h (by decide)⟩
theorem sf_77 : SF 11 131 2 0 1 qX2_unpack := ⟨fw5 wd_605 wd_606 wd_607 wd_54 wd_608, ⟨by decide +kernel, by decide +kernel⟩, by decide +kernel, rfl, plainFor_of_name (by decide +kernel), by decide, by decide +kernel, fun _ => ⟨rfl, by decide, rfl⟩, fun h => absurd h (by decide), fun h => absurd h (by decide), fun h => absurd h (by decide)⟩
theorem sf_78 : SF 11 134 2 0 1 qX2_areSome := ⟨fw5 wd_613 wd_614 wd_615 wd_54 wd_616, ⟨by decide +kernel, by decide +kernel⟩, by decide +kernel, rfl, plainFor_of_name (by decide +kernel), by decide, by decide +kernel, fun _ => ⟨rfl, by decide, rfl⟩, fun h => absurd h (by decide), fun h => absurd h (by decide), fun h => absurd h (by decide)⟩
theorem sf_79 : SF 11 137 99 2 1 qX11_isRoom := ⟨fw4 wd_617 wd_310 wd_53 wd_311, ⟨by decide +kernel, by decide +kernel⟩, by decide +kernel, rfl, plainFor_of_name (by decide +kernel), by decide, by decide +kernel, fun h => absurd h (by decide), fun h => absurd h (by decide), fun h => absurd h (by decide), fun h => absurd h (by decide)⟩
theorem sf_80 : SF 11 140 11 0 2 qX11_stepsNow := ⟨fw5 wd_618 wd_620 wd_11 wd_53 wd_621, ⟨by decide +kernel, by decide +kernel⟩, by decide +kernel, rfl, plainFor_of_name (by decide +kernel), by decide, by decide +kernel, fun _ => ⟨rfl, by decide, rfl⟩, fun h => absurd h (by decide), fun h => absurd h (by decide), fun h => absurd h (by decide)⟩
theorem sf_81 : SF 11 143 9 0 2 qX9_stepOfWay := ⟨fw5 wd_653 wd_654 wd_655 wd_64 wd_656, ⟨by decide +kernel, by decide +kernel⟩, by decide +kernel, rfl, plainFor_of_name (by decide +kernel), by decide, by decide +kernel, fun _ => ⟨rfl, by decide, rfl⟩, fun h => absurd h (by decide), fun h => absurd h (by decide), fun h => absurd h (by decide)⟩
theorem sf_82 : SF 11 146 11 0 0 qX11_lyingsNow := ⟨fw5 wd_668 wd_670 wd_17 wd_53 wd_671, ⟨by decide +kernel, by decide +kernel⟩, by decide +kernel, rfl, plainFor_of_name (by decide +kernel), by decide, by decide +kernel, fun _ => ⟨rfl, by decide, rfl⟩, fun h => absurd h (by decide), fun h => absurd h (by decide), fun h => absurd h (by decide)⟩
theorem sf_83 : SF 11 152 99 2 1 qJ6_bitCount_0f7a4 := ⟨fw4 wd_672 wd_673 wd_73 wd_674, ⟨by decide +kernel, by decide +kernel⟩, by decide +kernel, rfl, plainFor_of_name (by decide +kernel), by decide, by decide +kernel, fun h => absurd h (by decide), fun h => absurd h (by decide), fun h => absurd h (by decide), fun h => absurd h (by decide)⟩
theorem sf_84 : SF 11 157 2 0 0 qX2_allBridges := ⟨fw5 wd_678 wd_679 wd_680 wd_54 wd_681, ⟨by decide +kernel, by decide +kernel⟩, by decide +kernel, rfl, plainFor_of_name (by decide +kernel), by decide, by decide +kernel, fun _ => ⟨rfl, by decide, rfl⟩, fun h => absurd h (by decide), fun h => absurd h (by decide), fun h => absurd h (by decide)⟩
theorem sf_85 : SF 11 160 99 2 2 qX11_downInAll := ⟨fw4 wd_682 wd_683 wd_53 wd_684, ⟨by decide +kernel, by decide +kernel⟩, by decide +kernel, rfl, plainFor_of_name (by decide +kernel), by decide, by decide +kernel, fun h => absurd h (by decide), fun h => absurd h (by decide), fun h => absurd h (by decide), fun h => absurd h (by decide)⟩
theorem sf_86 : SF 11 163 99 2 1 qX11_downInSome := ⟨fw4 wd_688 wd_689 wd_53 wd_690, ⟨by decide +kernel, by decide +kernel⟩, by decide +kernel, rfl, plainFor_of_name (by decide +kernel), by decide, by decide +kernel, fun h => absurd h (by decide), fun h => absurd h (by decide), fun h => absurd h (by decide), fun h => absurd h (by decide)⟩
theorem sf_87 : SF 11 166 2 0 1 qX2_areBridges := ⟨fw5 wd_695 wd_696 wd_697 wd_54 wd_698, ⟨by decide +kernel, by decide +kernel⟩, by decide +kernel, rfl, plainFor_of_name (by decide +kernel), by decide, by decide +kernel, fun _ => ⟨rfl, by decide, rfl⟩, fun h => absurd h (by decide), fun h => absurd h (by decide), fun h => absurd h (by decide)⟩
theorem sf_88 : SF 11 169 99 2 2 qX11_isAmong := ⟨fw4 wd_685 wd_686 wd_53 wd_687, ⟨by decide +kernel, by decide +kernel⟩, by decide +kernel, rfl, plainFor_of_name (by decide +kernel), by decide, by decide +kernel, fun h => absurd h (by decide), fun h => absurd h (by decide), fun h => absurd h (by decide), fun h => absurd h (by decide)⟩
theorem sf_89 : SF 11 172 2 0 1 qX2_bridgesOf := ⟨fw5 wd_704 wd_705 wd_706 wd_54 wd_707, ⟨by decide +kernel, by decide +kernel⟩, by decide +kernel, rfl, plainFor_of_name (by decide +kernel), by decide, by decide +kernel, fun _ => ⟨rfl, by decide, rfl⟩, fun h => absurd h (by decide), fun h => absurd h (by decide), fun h => absurd h (by decide)⟩
theorem sf_90 : SF 11 175 2 0 1 qX2_leaveOut := ⟨fw5 wd_712 wd_713 wd_714 wd_54 wd_715, ⟨by decide +kernel, by decide +kernel⟩, by decide +kernel, rfl, plainFor_of_name (by decide +kernel), by decide, by decide +kernel, fun _ => ⟨rfl, by decide, rfl⟩, fun h => absurd h (by decide), fun h => absurd h (by decide), fun h => absurd h (by decide)⟩
theorem sf_91 : SF 11 178 9 0 4 qX9_shorter := ⟨fw5 wd_622 wd_623 wd_624 wd_64 wd_625, ⟨by decide +kernel, by decide +kernel⟩, by decide +kernel, rfl, plainFor_of_name (by decide +kernel), by decide, by decide +kernel, fun _ => ⟨rfl, by decide, rfl⟩, fun h => absurd h (by decide), fun h => absurd h (by decide), fun h => absurd h (by decide)⟩
theorem sf_92 : SF 11 188 2 0 1 qX2_dropChain := ⟨fw5 wd_720 wd_721 wd_722 wd_54 wd_723, ⟨by decide +kernel, by decide +kernel⟩, by decide +kernel, rfl, plainFor_of_name (by decide +kernel), by decide, by decide +kernel, fun _ => ⟨rfl, by decide, rfl⟩, fun h => absurd h (by decide), fun h => absurd h (by decide), fun h => absurd h (by decide)⟩
theorem sf_93 : SF 11 194 99 2 1 qX11_isStone := ⟨fw4 wd_732 wd_733 wd_53 wd_734, ⟨by decide +kernel, by decide +kernel⟩, by decide +kernel, rfl, plainFor_of_name (by decide +kernel), by decide, by decide +kernel, fun h => absurd h (by decide), fun h => absurd h (by decide), fun h => absurd h (by decide), fun h => absurd h (by decide)⟩
theorem sf_94 : SF 11 197 2 0 2 qX2_addStones := ⟨fw5 wd_735 wd_736 wd_737 wd_54 wd_738, ⟨by decide +kernel, by decide +kernel⟩, by decide +kernel, rfl, plainFor_of_name (by decide +kernel), by decide, by decide +kernel, fun _ => ⟨rfl, by decide, rfl⟩, fun h => absurd h (by decide), fun h => absurd h (by decide), fun h => absurd h (by decide)⟩
theorem sf_95 : SF 11 200 2 0 1 qX2_leaveAlone := ⟨fw5 wd_743 wd_744 wd_745 wd_54 wd_746, ⟨by decide +kernel, by decide +kernel⟩, by decide +kernel, rfl, plainFor_of_name (by decide +kernel), by decide, by decide +kernel, fun _ => ⟨rfl, by decide, rfl⟩, fun h => absurd h (by decide), fun h => absurd h (by decide), fun h => absurd h (by decide)⟩
theorem sf_96 : SF 11 203 99 2 5 qX11_rowsOf := ⟨fw4 wd_751 wd_752 wd_53 wd_753, ⟨by decide +kernel, by decide +kernel⟩, by decide +kernel, rfl, plainFor_of_name (by decide +kernel), by decide, by decide +kernel, fun h => absurd h (by decide), fun h => absurd h (by decide), fun h => absurd h (by decide), fun h => absurd h (by decide)⟩
theorem sf_97 : SF 11 207 99 2 1 qX11_isImage := ⟨fw4 wd_758 wd_759 wd_53 wd_760, ⟨by decide +kernel, by decide +kernel⟩, by decide +kernel, rfl, plainFor_of_name (by decide +kernel), by decide, by decide +kernel, fun h => absurd h (by decide), fun h => absurd h (by decide), fun h => absurd h (by decide), fun h => absurd h (by decide)⟩
theorem sf_98 : SF 11 229 2 0 1 qX2_digestOn := ⟨fw5 wd_779 wd_780 wd_781 wd_54 wd_782, ⟨by decide +kernel, by decide +kernel⟩, by decide +kernel, rfl, plainFor_of_name (by decide +kernel), by decide, by decide +kernel, fun _ => ⟨rfl, by decide, rfl⟩, fun h => absurd h (by decide), fun h => absurd h (by decide), fun h => absurd h (by decide)⟩
theorem sf_99 : SF 12 56 12 0 1 qX12_met := ⟨fw5 wd_876 wd_878 wd_19 wd_65 wd_879, ⟨by decide +kernel, by decide +kernel⟩, by decide +kernel, rfl, plainFor_of_name (by decide +kernel), by decide, by decide +kernel, fun _ => ⟨rfl, by decide, rfl⟩, fun h => absurd h (by decide), fun h => absurd h (by decide), fun h => absurd h (by decide)⟩
theorem sf_100 : SF 12 62 99 2 3 qX12_in := ⟨fw4 wd_872 wd_873 wd_65 wd_874, ⟨by decide +kernel, by decide +kernel⟩, by decide +kernel, rfl, plainFor_of_name (by decide +kernel), by decide, by decide +kernel, fun h => absurd h (by decide), fun h => absurd h (by decide), fun h => absurd h (by decide), fun h => absurd h (by decide)⟩
theorem sf_101 : SF 12 68 12 0 2 qX12_isBridge := ⟨fw5 wd_888 wd_890 wd_21 wd_65 wd_891, ⟨by decide +kernel, by decide +kernel⟩, by decide +kernel, rfl, plainFor_of_name (by decide +kernel), by decide, by decide +kernel, fun _ => ⟨rfl, by decide, rfl⟩, fun h => absurd h (by decide), fun h => absurd h (by decide), fun h => absurd h (by decide)⟩
theorem sf_102 : SF 12 74 12 0 2 qX12_isTied := ⟨fw5 wd_893 wd_895 wd_22 wd_65 wd_896, ⟨by decide +kernel, by decide +kernel⟩, by decide +kernel, rfl, plainFor_of_name (by decide +kernel), by decide, by decide +kernel, fun _ => ⟨rfl, by decide, rfl⟩, fun h => absurd h (by decide), fun h => absurd h (by decide), fun h => absurd h (by decide)⟩
theorem sf_103 : SF 12 79 12 0 5 qX12_addBridge := ⟨fw5 wd_867 wd_869 wd_18 wd_65 wd_870, ⟨by decide +kernel, by decide +kernel⟩, by decide +kernel, rfl, plainFor_of_name (by decide +kernel), by decide, by decide +kernel, fun _ => ⟨rfl, by decide, rfl⟩, fun h => absurd h (by decide), fun h => absurd h (by decide), fun h => absurd h (by decide)⟩
theorem sf_104 : SF 12 83 12 0 4 qX12_addChain := ⟨fw5 wd_884 wd_886 wd_20 wd_65 wd_887, ⟨by decide +kernel, by decide +kernel⟩, by decide +kernel, rfl, plainFor_of_name (by decide +kernel), by decide, by decide +kernel, fun _ => ⟨rfl, by decide, rfl⟩, fun h => absurd h (by decide), fun h => absurd h (by decide), fun h => absurd h (by decide)⟩
theorem sf_105 : SF 12 87 12 0 3 qX12_setLoad := ⟨fw5 wd_901 wd_903 wd_23 wd_65 wd_904, ⟨by decide +kernel, by decide +kernel⟩, by decide +kernel, rfl, plainFor_of_name (by decide +kernel), by decide, by decide +kernel, fun _ => ⟨rfl, by decide, rfl⟩, fun h => absurd h (by decide), fun h => absurd h (by decide), fun h => absurd h (by decide)⟩
theorem sf_106 : SF 12 91 12 0 3 qX12_addOne := ⟨fw5 wd_910 wd_912 wd_24 wd_65 wd_913, ⟨by decide +kernel, by decide +kernel⟩, by decide +kernel, rfl, plainFor_of_name (by decide +kernel), by decide, by decide +kernel, fun _ => ⟨rfl, by decide, rfl⟩, fun h => absurd h (by decide), fun h => absurd h (by decide), fun h => absurd h (by decide)⟩
theorem sf_107 : SF 12 98 12 0 3 qX12_tieMore := ⟨fw5 wd_926 wd_928 wd_27 wd_65 wd_929, ⟨by decide +kernel, by decide +kernel⟩, by decide +kernel, rfl, plainFor_of_name (by decide +kernel), by decide, by decide +kernel, fun _ => ⟨rfl, by decide, rfl⟩, fun h => absurd h (by decide), fun h => absurd h (by decide), fun h => absurd h (by decide)⟩
theorem sf_108 : SF 12 105 99 2 2 qX12_has := ⟨fw4 wd_934 wd_935 wd_65 wd_936, ⟨by decide +kernel, by decide +kernel⟩, by decide +kernel, rfl, plainFor_of_name (by decide +kernel), by decide, by decide +kernel, fun h => absurd h (by decide), fun h => absurd h (by decide), fun h => absurd h (by decide), fun h => absurd h (by decide)⟩
theorem sf_109 : SF 12 111 12 0 1 qX12_loadOf := ⟨fw5 wd_937 wd_939 wd_29 wd_65 wd_940, ⟨by decide +kernel, by decide +kernel⟩, by decide +kernel, rfl, plainFor_of_name (by decide +kernel), by decide, by decide +kernel, fun _ => ⟨rfl, by decide, rfl⟩, fun h => absurd h (by decide), fun h => absurd h (by decide), fun h => absurd h (by decide)⟩
theorem sf_110 : SF 12 114 12 0 2 qX12_tip := ⟨fw5 wd_1021 wd_1023 wd_40 wd_65 wd_1024, ⟨by decide +kernel, by decide +kernel⟩, by decide +kernel, rfl, plainFor_of_name (by decide +kernel), by decide, by decide +kernel, fun _ => ⟨rfl, by decide, rfl⟩, fun h => absurd h (by decide), fun h => absurd h (by decide), fun h => absurd h (by decide)⟩
theorem sf_111 : SF 12 118 12 0 2 qX12_isOf := ⟨fw5 wd_1013 wd_1015 wd_38 wd_65 wd_1016, ⟨by decide +kernel, by decide +kernel⟩, by decide +kernel, rfl, plainFor_of_name (by decide +kernel), by decide, by decide +kernel, fun _ => ⟨rfl, by decide, rfl⟩, fun h => absurd h (by decide), fun h => absurd h (by decide), fun h => absurd h (by decide)⟩
theorem sf_112 : SF 12 121 12 0 0 qX12_bad := ⟨fw5 wd_918 wd_920 wd_25 wd_65 wd_921, ⟨by decide +kernel, by decide +kernel⟩, by decide +kernel, rfl, plainFor_of_name (by decide +kernel), by decide, by decide +kernel, fun _ => ⟨rfl, by decide, rfl⟩, fun h => absurd h (by decide), fun h => absurd h (by decide), fun h => absurd h (by decide)⟩
theorem sf_113 : SF 12 125 12 0 0 qX12_layNow := ⟨fw5 wd_922 wd_924 wd_26 wd_65 wd_925, ⟨by decide +kernel, by decide +kernel⟩, by decide +kernel, rfl, plainFor_of_name (by decide +kernel), by decide, by decide +kernel, fun _ => ⟨rfl, by decide, rfl⟩, fun h => absurd h (by decide), fun h => absurd h (by decide), fun h => absurd h (by decide)⟩
theorem sf_114 : SF 12 128 12 0 0 qX12_asNow := ⟨fw5 wd_930 wd_932 wd_28 wd_65 wd_933, ⟨by decide +kernel, by decide +kernel⟩, by decide +kernel, rfl, plainFor_of_name (by decide +kernel), by decide, by decide +kernel, fun _ => ⟨rfl, by decide, rfl⟩, fun h => absurd h (by decide), fun h => absurd h (by decide), fun h => absurd h (by decide)⟩
theorem sf_115 : SF 12 131 12 0 1 qX12_isOne := ⟨fw5 wd_945 wd_947 wd_30 wd_65 wd_948, ⟨by decide +kernel, by decide +kernel⟩, by decide +kernel, rfl, plainFor_of_name (by decide +kernel), by decide, by decide +kernel, fun _ => ⟨rfl, by decide, rfl⟩, fun h => absurd h (by decide), fun h => absurd h (by decide), fun h => absurd h (by decide)⟩
theorem sf_116 : SF 12 155 12 0 0 qX12_isEnd := ⟨fw5 wd_967 wd_969 wd_31 wd_65 wd_970, ⟨by decide +kernel, by decide +kernel⟩, by decide +kernel, rfl, plainFor_of_name (by decide +kernel), by decide, by decide +kernel, fun _ => ⟨rfl, by decide, rfl⟩, fun h => absurd h (by decide), fun h => absurd h (by decide), fun h => absurd h (by decide)⟩
theorem sf_117 : SF 12 174 99 2 1 qX12_wordOf := ⟨fw4 wd_979 wd_980 wd_65 wd_981, ⟨by decide +kernel, by decide +kernel⟩, by decide +kernel, rfl, plainFor_of_name (by decide +kernel), by decide, by decide +kernel, fun h => absurd h (by decide), fun h => absurd h (by decide), fun h => absurd h (by decide), fun h => absurd h (by decide)⟩
theorem sf_118 : SF 12 181 12 0 0 qX12_takeNumber := ⟨fw5 wd_987 wd_989 wd_33 wd_65 wd_990, ⟨by decide +kernel, by decide +kernel⟩, by decide +kernel, rfl, plainFor_of_name (by decide +kernel), by decide, by decide +kernel, fun _ => ⟨rfl, by decide, rfl⟩, fun h => absurd h (by decide), fun h => absurd h (by decide), fun h => absurd h (by decide)⟩
theorem sf_119 : SF 12 184 12 0 0 qX12_takeItem := ⟨fw5 wd_971 wd_973 wd_32 wd_65 wd_974, ⟨by decide +kernel, by decide +kernel⟩, by decide +kernel, rfl, plainFor_of_name (by decide +kernel), by decide, by decide +kernel, fun _ => ⟨rfl, by decide, rfl⟩, fun h => absurd h (by decide), fun h => absurd h (by decide), fun h => absurd h (by decide)⟩
theorem sf_120 : SF 12 187 12 0 1 qX12_tellItem := ⟨fw5 wd_993 wd_995 wd_34 wd_65 wd_996, ⟨by decide +kernel, by decide +kernel⟩, by decide +kernel, rfl, plainFor_of_name (by decide +kernel), by decide, by decide +kernel, fun _ => ⟨rfl, by decide, rfl⟩, fun h => absurd h (by decide), fun h => absurd h (by decide), fun h => absurd h (by decide)⟩
theorem sf_121 : SF 12 190 12 0 2 qX12_copy := ⟨fw5 wd_997 wd_999 wd_35 wd_65 wd_1000, ⟨by decide +kernel, by decide +kernel⟩, by decide +kernel, rfl, plainFor_of_name (by decide +kernel), by decide, by decide +kernel, fun _ => ⟨rfl, by decide, rfl⟩, fun h => absurd h (by decide), fun h => absurd h (by decide), fun h => absurd h (by decide)⟩
theorem sf_122 : SF 12 193 12 0 1 qX12_isPlace := ⟨fw5 wd_1005 wd_1007 wd_36 wd_65 wd_1008, ⟨by decide +kernel, by decide +kernel⟩, by decide +kernel, rfl, plainFor_of_name (by decide +kernel), by decide, by decide +kernel, fun _ => ⟨rfl, by decide, rfl⟩, fun h => absurd h (by decide), fun h => absurd h (by decide), fun h => absurd h (by decide)⟩
theorem sf_123 : SF 12 196 12 0 2 qX12_mayStep := ⟨fw5 wd_1009 wd_1011 wd_37 wd_65 wd_1012, ⟨by decide +kernel, by decide +kernel⟩, by decide +kernel, rfl, plainFor_of_name (by decide +kernel), by decide, by decide +kernel, fun _ => ⟨rfl, by decide, rfl⟩, fun h => absurd h (by decide), fun h => absurd h (by decide), fun h => absurd h (by decide)⟩
theorem sf_124 : SF 12 199 12 0 0 qX12_tipAll := ⟨fw5 wd_1017 wd_1019 wd_39 wd_65 wd_1020, ⟨by decide +kernel, by decide +kernel⟩, by decide +kernel, rfl, plainFor_of_name (by decide +kernel), by decide, by decide +kernel, fun _ => ⟨rfl, by decide, rfl⟩, fun h => absurd h (by decide), fun h => absurd h (by decide), fun h => absurd h (by decide)⟩
theorem sf_125 : SF 12 202 12 0 0 qX12_codeNow := ⟨fw5 wd_1048 wd_1050 wd_44 wd_65 wd_1051, ⟨by decide +kernel, by decide +kernel⟩, by decide +kernel, rfl, plainFor_of_name (by decide +kernel), by decide, by decide +kernel, fun _ => ⟨rfl, by decide, rfl⟩, fun h => absurd h (by decide), fun h => absurd h (by decide), fun h => absurd h (by decide)⟩
theorem sf_126 : SF 12 208 12 0 1 qX12_decode := ⟨fw5 wd_1052 wd_1054 wd_45 wd_65 wd_1055, ⟨by decide +kernel, by decide +kernel⟩, by decide +kernel, rfl, plainFor_of_name (by decide +kernel), by decide, by decide +kernel, fun _ => ⟨rfl, by decide, rfl⟩, fun h => absurd h (by decide), fun h => absurd h (by decide), fun h => absurd h (by decide)⟩
theorem sf_127 : SF 12 212 12 0 0 qX12_goAll := ⟨fw5 wd_1044 wd_1046 wd_43 wd_65 wd_1047, ⟨by decide +kernel, by decide +kernel⟩, by decide +kernel, rfl, plainFor_of_name (by decide +kernel), by decide, by decide +kernel, fun _ => ⟨rfl, by decide, rfl⟩, fun h => absurd h (by decide), fun h => absurd h (by decide), fun h => absurd h (by decide)⟩
theorem sf_128 : SF 12 215 12 0 2 qX12_findWay := ⟨fw5 wd_1040 wd_1042 wd_42 wd_65 wd_1043, ⟨by decide +kernel, by decide +kernel⟩, by decide +kernel, rfl, plainFor_of_name (by decide +kernel), by decide, by decide +kernel, fun _ => ⟨rfl, by decide, rfl⟩, fun h => absurd h (by decide), fun h => absurd h (by decide), fun h => absurd h (by decide)⟩
theorem sf_129 : SF 12 220 12 0 1 qX12_stepsTo := ⟨fw5 wd_1056 wd_1058 wd_46 wd_65 wd_1059, ⟨by decide +kernel, by decide +kernel⟩, by decide +kernel, rfl, plainFor_of_name (by decide +kernel), by decide, by decide +kernel, fun _ => ⟨rfl, by decide, rfl⟩, fun h => absurd h (by decide), fun h => absurd h (by decide), fun h => absurd h (by decide)⟩
theorem sf_130 : SF 12 223 12 0 1 qX12_areSome := ⟨fw5 wd_1033 wd_1035 wd_41 wd_65 wd_1036, ⟨by decide +kernel, by decide +kernel⟩, by decide +kernel, rfl, plainFor_of_name (by decide +kernel), by decide, by decide +kernel, fun _ => ⟨rfl, by decide, rfl⟩, fun h => absurd h (by decide), fun h => absurd h (by decide), fun h => absurd h (by decide)⟩
theorem sf_131 : SF 12 226 99 2 1 qX12_isRoom := ⟨fw4 wd_1037 wd_1038 wd_65 wd_1039, ⟨by decide +kernel, by decide +kernel⟩, by decide +kernel, rfl, plainFor_of_name (by decide +kernel), by decide, by decide +kernel, fun h => absurd h (by decide), fun h => absurd h (by decide), fun h => absurd h (by decide), fun h => absurd h (by decide)⟩
theorem sf_132 : SF 12 229 12 0 0 qX12_lyings := ⟨fw5 wd_1069 wd_1071 wd_48 wd_65 wd_1072, ⟨by decide +kernel, by decide +kernel⟩, by decide +kernel, rfl, plainFor_of_name (by decide +kernel), by decide, by decide +kernel, fun _ => ⟨rfl, by decide, rfl⟩, fun h => absurd h (by decide), fun h => absurd h (by decide), fun h => absurd h (by decide)⟩
theorem sf_133 : SF 12 234 12 0 0 qX12_allLyings := ⟨fw5 wd_1065 wd_1067 wd_47 wd_65 wd_1068, ⟨by decide +kernel, by decide +kernel⟩, by decide +kernel, rfl, plainFor_of_name (by decide +kernel), by decide, by decide +kernel, fun _ => ⟨rfl, by decide, rfl⟩, fun h => absurd h (by decide), fun h => absurd h (by decide), fun h => absurd h (by decide)⟩
theorem sf_134 : SF 12 237 99 2 1 qX12_many := ⟨fw4 wd_1073 wd_1074 wd_65 wd_1075, ⟨by decide +kernel, by decide +kernel⟩, by decide +kernel, rfl, plainFor_of_name (by decide +kernel), by decide, by decide +kernel, fun h => absurd h (by decide), fun h => absurd h (by decide), fun h => absurd h (by decide), fun h => absurd h (by decide)⟩
theorem sf_135 : SF 12 240 12 0 2 qX12_stepsOf := ⟨fw5 wd_1092 wd_1094 wd_49 wd_65 wd_1095, ⟨by decide +kernel, by decide +kernel⟩, by decide +kernel, rfl, plainFor_of_name (by decide +kernel), by decide, by decide +kernel, fun _ => ⟨rfl, by decide, rfl⟩, fun h => absurd h (by decide), fun h => absurd h (by decide), fun h => absurd h (by decide)⟩
theorem sf_136 : SF 12 243 99 2 1 qX12_ones := ⟨fw4 wd_1109 wd_1110 wd_65 wd_1111, ⟨by decide +kernel, by decide +kernel⟩, by decide +kernel, rfl, plainFor_of_name (by decide +kernel), by decide, by decide +kernel, fun h => absurd h (by decide), fun h => absurd h (by decide), fun h => absurd h (by decide), fun h => absurd h (by decide)⟩
theorem sf_137 : SF 12 249 12 0 1 qX12_countOf := ⟨fw5 wd_1134 wd_1136 wd_50 wd_65 wd_1137, ⟨by decide +kernel, by decide +kernel⟩, by decide +kernel, rfl, plainFor_of_name (by decide +kernel), by decide, by decide +kernel, fun _ => ⟨rfl, by decide, rfl⟩, fun h => absurd h (by decide), fun h => absurd h (by decide), fun h => absurd h (by decide)⟩
theorem sf_138 : SF 12 260 12 0 1 qX12_mix := ⟨fw5 wd_1143 wd_1145 wd_51 wd_65 wd_1146, ⟨by decide +kernel, by decide +kernel⟩, by decide +kernel, rfl, plainFor_of_name (by decide +kernel), by decide, by decide +kernel, fun _ => ⟨rfl, by decide, rfl⟩, fun h => absurd h (by decide), fun h => absurd h (by decide), fun h => absurd h (by decide)⟩
theorem sf_139 : SF 30 13 11 0 4 qX11_bridge := ⟨fw5 wd_301 wd_302 wd_303 wd_53 wd_304, ⟨by decide +kernel, by decide +kernel⟩, by decide +kernel, rfl, plainFor_of_name (by decide +kernel), by decide, by decide +kernel, fun _ => ⟨rfl, by decide, rfl⟩, fun h => absurd h (by decide), fun h => absurd h (by decide), fun h => absurd h (by decide)⟩
theorem sf_140 : SF 30 17 12 0 4 qX12_bridge := ⟨fw5 wd_863 wd_864 wd_865 wd_65 wd_866, ⟨by decide +kernel, by decide +kernel⟩, by decide +kernel, rfl, plainFor_of_name (by decide +kernel), by decide, by decide +kernel, fun _ => ⟨rfl, by decide, rfl⟩, fun h => absurd h (by decide), fun h => absurd h (by decide), fun h => absurd h (by decide)⟩
theorem sf_141 : SF 30 18 11 0 3 qX11_chain := ⟨fw5 wd_320 wd_321 wd_322 wd_53 wd_323, ⟨by decide +kernel, by decide +kernel⟩, by decide +kernel, rfl, plainFor_of_name (by decide +kernel), by decide, by decide +kernel, fun _ => ⟨rfl, by decide, rfl⟩, fun h => absurd h (by decide), fun h => absurd h (by decide), fun h => absurd h (by decide)⟩
theorem sf_142 : SF 30 22 12 0 3 qX12_chain := ⟨fw5 wd_880 wd_881 wd_882 wd_65 wd_883, ⟨by decide +kernel, by decide +kernel⟩, by decide +kernel, rfl, plainFor_of_name (by decide +kernel), by decide, by decide +kernel, fun _ => ⟨rfl, by decide, rfl⟩, fun h => absurd h (by decide), fun h => absurd h (by decide), fun h => absurd h (by decide)⟩
theorem sf_143 : SF 30 23 11 0 2 qX11_load := ⟨fw5 wd_336 wd_337 wd_338 wd_53 wd_339, ⟨by decide +kernel, by decide +kernel⟩, by decide +kernel, rfl, plainFor_of_name (by decide +kernel), by decide, by decide +kernel, fun _ => ⟨rfl, by decide, rfl⟩, fun h => absurd h (by decide), fun h => absurd h (by decide), fun h => absurd h (by decide)⟩
theorem sf_144 : SF 30 27 12 0 2 qX12_load := ⟨fw5 wd_897 wd_898 wd_899 wd_65 wd_900, ⟨by decide +kernel, by decide +kernel⟩, by decide +kernel, rfl, plainFor_of_name (by decide +kernel), by decide, by decide +kernel, fun _ => ⟨rfl, by decide, rfl⟩, fun h => absurd h (by decide), fun h => absurd h (by decide), fun h => absurd h (by decide)⟩
theorem sf_145 : SF 30 28 11 0 2 qX11_one := ⟨fw5 wd_344 wd_345 wd_346 wd_53 wd_347, ⟨by decide +kernel, by decide +kernel⟩, by decide +kernel, rfl, plainFor_of_name (by decide +kernel), by decide, by decide +kernel, fun _ => ⟨rfl, by decide, rfl⟩, fun h => absurd h (by decide), fun h => absurd h (by decide), fun h => absurd h (by decide)⟩
theorem sf_146 : SF 30 31 12 0 2 qX12_one := ⟨fw5 wd_906 wd_907 wd_908 wd_65 wd_909, ⟨by decide +kernel, by decide +kernel⟩, by decide +kernel, rfl, plainFor_of_name (by decide +kernel), by decide, by decide +kernel, fun _ => ⟨rfl, by decide, rfl⟩, fun h => absurd h (by decide), fun h => absurd h (by decide), fun h => absurd h (by decide)⟩
theorem sf_147 : SF 30 32 11 0 1 qX11_weight := ⟨fw5 wd_352 wd_353 wd_354 wd_53 wd_355, ⟨by decide +kernel, by decide +kernel⟩, by decide +kernel, rfl, plainFor_of_name (by decide +kernel), by decide, by decide +kernel, fun _ => ⟨rfl, by decide, rfl⟩, fun h => absurd h (by decide), fun h => absurd h (by decide), fun h => absurd h (by decide)⟩
theorem sf_148 : SF 30 36 12 0 1 qX12_weight := ⟨fw5 wd_914 wd_915 wd_916 wd_65 wd_917, ⟨by decide +kernel, by decide +kernel⟩, by decide +kernel, rfl, plainFor_of_name (by decide +kernel), by decide, by decide +kernel, fun _ => ⟨rfl, by decide, rfl⟩, fun h => absurd h (by decide), fun h => absurd h (by decide), fun h => absurd h (by decide)⟩
theorem sf_149 : SF 30 37 11 0 1 qX11_where := ⟨fw5 wd_378 wd_379 wd_380 wd_53 wd_381, ⟨by decide +kernel, by decide +kernel⟩, by decide +kernel, rfl, plainFor_of_name (by decide +kernel), by decide, by decide +kernel, fun _ => ⟨rfl, by decide, rfl⟩, fun h => absurd h (by decide), fun h => absurd h (by decide), fun h => absurd h (by decide)⟩
theorem sf_150 : SF 30 40 12 0 1 qX12_where := ⟨fw5 wd_941 wd_942 wd_943 wd_65 wd_944, ⟨by decide +kernel, by decide +kernel⟩, by decide +kernel, rfl, plainFor_of_name (by decide +kernel), by decide, by decide +kernel, fun _ => ⟨rfl, by decide, rfl⟩, fun h => absurd h (by decide), fun h => absurd h (by decide), fun h => absurd h (by decide)⟩
theorem sf_151 : SF 30 41 11 0 0 qX11_lying := ⟨fw5 wd_386 wd_387 wd_388 wd_53 wd_389, ⟨by decide +kernel, by decide +kernel⟩, by decide +kernel, rfl, plainFor_of_name (by decide +kernel), by decide, by decide +kernel, fun _ => ⟨rfl, by decide, rfl⟩, fun h => absurd h (by decide), fun h => absurd h (by decide), fun h => absurd h (by decide)⟩
theorem sf_152 : SF 30 45 12 0 0 qX12_lying := ⟨fw5 wd_949 wd_950 wd_951 wd_65 wd_952, ⟨by decide +kernel, by decide +kernel⟩, by decide +kernel, rfl, plainFor_of_name (by decide +kernel), by decide, by decide +kernel, fun _ => ⟨rfl, by decide, rfl⟩, fun h => absurd h (by decide), fun h => absurd h (by decide), fun h => absurd h (by decide)⟩
theorem sf_153 : SF 30 48 11 0 2 qX11_type := ⟨fw5 wd_390 wd_391 wd_392 wd_53 wd_393, ⟨by decide +kernel, by decide +kernel⟩, by decide +kernel, rfl, plainFor_of_name (by decide +kernel), by decide, by decide +kernel, fun _ => ⟨rfl, by decide, rfl⟩, fun h => absurd h (by decide), fun h => absurd h (by decide), fun h => absurd h (by decide)⟩
theorem sf_154 : SF 30 52 12 0 2 qX12_type := ⟨fw5 wd_953 wd_954 wd_955 wd_65 wd_956, ⟨by decide +kernel, by decide +kernel⟩, by decide +kernel, rfl, plainFor_of_name (by decide +kernel), by decide, by decide +kernel, fun _ => ⟨rfl, by decide, rfl⟩, fun h => absurd h (by decide), fun h => absurd h (by decide), fun h => absurd h (by decide)⟩
theorem sf_155 : SF 30 53 11 0 0 qX11_clear := ⟨fw5 wd_399 wd_400 wd_401 wd_53 wd_402, ⟨by decide +kernel, by decide +kernel⟩, by decide +kernel, rfl, plainFor_of_name (by decide +kernel), by decide, by decide +kernel, fun _ => ⟨rfl, by decide, rfl⟩, fun h => absurd h (by decide), fun h => absurd h (by decide), fun h => absurd h (by decide)⟩
theorem sf_156 : SF 30 56 12 0 0 qX12_clear := ⟨fw5 wd_959 wd_960 wd_961 wd_65 wd_962, ⟨by decide +kernel, by decide +kernel⟩, by decide +kernel, rfl, plainFor_of_name (by decide +kernel), by decide, by decide +kernel, fun _ => ⟨rfl, by decide, rfl⟩, fun h => absurd h (by decide), fun h => absurd h (by decide), fun h => absurd h (by decide)⟩
theorem sf_157 : SF 30 57 11 0 0 qX11_read := ⟨fw5 wd_407 wd_408 wd_409 wd_53 wd_410, ⟨by decide +kernel, by decide +kernel⟩, by decide +kernel, rfl, plainFor_of_name (by decide +kernel), by decide, by decide +kernel, fun _ => ⟨rfl, by decide, rfl⟩, fun h => absurd h (by decide), fun h => absurd h (by decide), fun h => absurd h (by decide)⟩
theorem sf_158 : SF 30 60 12 0 0 qX12_read := ⟨fw5 wd_963 wd_964 wd_965 wd_65 wd_966, ⟨by decide +kernel, by decide +kernel⟩, by decide +kernel, rfl, plainFor_of_name (by decide +kernel), by decide, by decide +kernel, fun _ => ⟨rfl, by decide, rfl⟩, fun h => absurd h (by decide), fun h => absurd h (by decide), fun h => absurd h (by decide)⟩
theorem sf_159 : SF 30 61 11 0 2 qX11_step := ⟨fw5 wd_530 wd_531 wd_532 wd_53 wd_533, ⟨by decide +kernel, by decide +kernel⟩, by decide +kernel, rfl, plainFor_of_name (by decide +kernel), by decide, by decide +kernel, fun _ => ⟨rfl, by decide, rfl⟩, fun h => absurd h (by decide), fun h => absurd h (by decide), fun h => absurd h (by decide)⟩
theorem sf_160 : SF 30 64 12 0 2 qX12_step := ⟨fw5 wd_1001 wd_1002 wd_1003 wd_65 wd_1004, ⟨by decide +kernel, by decide +kernel⟩, by decide +kernel, rfl, plainFor_of_name (by decide +kernel), by decide, by decide +kernel, fun _ => ⟨rfl, by decide, rfl⟩, fun h => absurd h (by decide), fun h => absurd h (by decide), fun h => absurd h (by decide)⟩
theorem sf_161 : SF 30 65 11 0 0 qX11_undo := ⟨fw5 wd_597 wd_598 wd_599 wd_53 wd_600, ⟨by decide +kernel, by decide +kernel⟩, by decide +kernel, rfl, plainFor_of_name (by decide +kernel), by decide, by decide +kernel, fun _ => ⟨rfl, by decide, rfl⟩, fun h => absurd h (by decide), fun h => absurd h (by decide), fun h => absurd h (by decide)⟩
theorem sf_162 : SF 30 68 12 0 0 qX12_undo := ⟨fw5 wd_1025 wd_1026 wd_1027 wd_65 wd_1028, ⟨by decide +kernel, by decide +kernel⟩, by decide +kernel, rfl, plainFor_of_name (by decide +kernel), by decide, by decide +kernel, fun _ => ⟨rfl, by decide, rfl⟩, fun h => absurd h (by decide), fun h => absurd h (by decide), fun h => absurd h (by decide)⟩
theorem sf_163 : SF 30 69 11 0 3 qX11_way := ⟨fw5 wd_609 wd_610 wd_611 wd_53 wd_612, ⟨by decide +kernel, by decide +kernel⟩, by decide +kernel, rfl, plainFor_of_name (by decide +kernel), by decide, by decide +kernel, fun _ => ⟨rfl, by decide, rfl⟩, fun h => absurd h (by decide), fun h => absurd h (by decide), fun h => absurd h (by decide)⟩
theorem sf_164 : SF 30 72 12 0 3 qX12_way := ⟨fw5 wd_1029 wd_1030 wd_1031 wd_65 wd_1032, ⟨by decide +kernel, by decide +kernel⟩, by decide +kernel, rfl, plainFor_of_name (by decide +kernel), by decide, by decide +kernel, fun _ => ⟨rfl, by decide, rfl⟩, fun h => absurd h (by decide), fun h => absurd h (by decide), fun h => absurd h (by decide)⟩
theorem sf_165 : SF 30 73 11 0 1 qX11_reach := ⟨fw5 wd_664 wd_665 wd_666 wd_53 wd_667, ⟨by decide +kernel, by decide +kernel⟩, by decide +kernel, rfl, plainFor_of_name (by decide +kernel), by decide, by decide +kernel, fun _ => ⟨rfl, by decide, rfl⟩, fun h => absurd h (by decide), fun h => absurd h (by decide), fun h => absurd h (by decide)⟩
theorem sf_166 : SF 30 76 12 0 1 qX12_reach := ⟨fw5 wd_1060 wd_1061 wd_1062 wd_65 wd_1063, ⟨by decide +kernel, by decide +kernel⟩, by decide +kernel, rfl, plainFor_of_name (by decide +kernel), by decide, by decide +kernel, fun _ => ⟨rfl, by decide, rfl⟩, fun h => absurd h (by decide), fun h => absurd h (by decide), fun h => absurd h (by decide)⟩
theorem sf_167 : SF 30 77 11 0 1 qX11_can := ⟨fw5 wd_691 wd_692 wd_693 wd_53 wd_694, ⟨by decide +kernel, by decide +kernel⟩, by decide +kernel, rfl, plainFor_of_name (by decide +kernel), by decide, by decide +kernel, fun _ => ⟨rfl, by decide, rfl⟩, fun h => absurd h (by decide), fun h => absurd h (by decide), fun h => absurd h (by decide)⟩
theorem sf_168 : SF 30 80 12 0 1 qX12_can := ⟨fw5 wd_1076 wd_1077 wd_1078 wd_65 wd_1079, ⟨by decide +kernel, by decide +kernel⟩, by decide +kernel, rfl, plainFor_of_name (by decide +kernel), by decide, by decide +kernel, fun _ => ⟨rfl, by decide, rfl⟩, fun h => absurd h (by decide), fun h => absurd h (by decide), fun h => absurd h (by decide)⟩
theorem sf_169 : SF 30 81 11 0 1 qX11_closed := ⟨fw5 wd_700 wd_701 wd_702 wd_53 wd_703, ⟨by decide +kernel, by decide +kernel⟩, by decide +kernel, rfl, plainFor_of_name (by decide +kernel), by decide, by decide +kernel, fun _ => ⟨rfl, by decide, rfl⟩, fun h => absurd h (by decide), fun h => absurd h (by decide), fun h => absurd h (by decide)⟩
theorem sf_170 : SF 30 84 12 0 1 qX12_closed := ⟨fw5 wd_1080 wd_1081 wd_1082 wd_65 wd_1083, ⟨by decide +kernel, by decide +kernel⟩, by decide +kernel, rfl, plainFor_of_name (by decide +kernel), by decide, by decide +kernel, fun _ => ⟨rfl, by decide, rfl⟩, fun h => absurd h (by decide), fun h => absurd h (by decide), fun h => absurd h (by decide)⟩
theorem sf_171 : SF 30 85 11 0 1 qX11_child := ⟨fw5 wd_708 wd_709 wd_710 wd_53 wd_711, ⟨by decide +kernel, by decide +kernel⟩, by decide +kernel, rfl, plainFor_of_name (by decide +kernel), by decide, by decide +kernel, fun _ => ⟨rfl, by decide, rfl⟩, fun h => absurd h (by decide), fun h => absurd h (by decide), fun h => absurd h (by decide)⟩
theorem sf_172 : SF 30 88 12 0 1 qX12_child := ⟨fw5 wd_1084 wd_1085 wd_1086 wd_65 wd_1087, ⟨by decide +kernel, by decide +kernel⟩, by decide +kernel, rfl, plainFor_of_name (by decide +kernel), by decide, by decide +kernel, fun _ => ⟨rfl, by decide, rfl⟩, fun h => absurd h (by decide), fun h => absurd h (by decide), fun h => absurd h (by decide)⟩
theorem sf_173 : SF 30 89 11 0 2 qX11_cut := ⟨fw5 wd_716 wd_717 wd_718 wd_53 wd_719, ⟨by decide +kernel, by decide +kernel⟩, by decide +kernel, rfl, plainFor_of_name (by decide +kernel), by decide, by decide +kernel, fun _ => ⟨rfl, by decide, rfl⟩, fun h => absurd h (by decide), fun h => absurd h (by decide), fun h => absurd h (by decide)⟩
theorem sf_174 : SF 30 92 12 0 2 qX12_cut := ⟨fw5 wd_1088 wd_1089 wd_1090 wd_65 wd_1091, ⟨by decide +kernel, by decide +kernel⟩, by decide +kernel, rfl, plainFor_of_name (by decide +kernel), by decide, by decide +kernel, fun _ => ⟨rfl, by decide, rfl⟩, fun h => absurd h (by decide), fun h => absurd h (by decide), fun h => absurd h (by decide)⟩
theorem sf_175 : SF 30 93 11 0 2 qX11_tie := ⟨fw5 wd_724 wd_725 wd_726 wd_53 wd_727, ⟨by decide +kernel, by decide +kernel⟩, by decide +kernel, rfl, plainFor_of_name (by decide +kernel), by decide, by decide +kernel, fun _ => ⟨rfl, by decide, rfl⟩, fun h => absurd h (by decide), fun h => absurd h (by decide), fun h => absurd h (by decide)⟩
theorem sf_176 : SF 30 96 12 0 2 qX12_tie := ⟨fw5 wd_1097 wd_1098 wd_1099 wd_65 wd_1100, ⟨by decide +kernel, by decide +kernel⟩, by decide +kernel, rfl, plainFor_of_name (by decide +kernel), by decide, by decide +kernel, fun _ => ⟨rfl, by decide, rfl⟩, fun h => absurd h (by decide), fun h => absurd h (by decide), fun h => absurd h (by decide)⟩
theorem sf_177 : SF 30 97 11 0 3 qX11_stone := ⟨fw5 wd_728 wd_729 wd_730 wd_53 wd_731, ⟨by decide +kernel, by decide +kernel⟩, by decide +kernel, rfl, plainFor_of_name (by decide +kernel), by decide, by decide +kernel, fun _ => ⟨rfl, by decide, rfl⟩, fun h => absurd h (by decide), fun h => absurd h (by decide), fun h => absurd h (by decide)⟩
theorem sf_178 : SF 30 100 12 0 3 qX12_stone := ⟨fw5 wd_1101 wd_1102 wd_1103 wd_65 wd_1104, ⟨by decide +kernel, by decide +kernel⟩, by decide +kernel, rfl, plainFor_of_name (by decide +kernel), by decide, by decide +kernel, fun _ => ⟨rfl, by decide, rfl⟩, fun h => absurd h (by decide), fun h => absurd h (by decide), fun h => absurd h (by decide)⟩
theorem sf_179 : SF 30 101 11 0 3 qX11_keep := ⟨fw5 wd_739 wd_740 wd_741 wd_53 wd_742, ⟨by decide +kernel, by decide +kernel⟩, by decide +kernel, rfl, plainFor_of_name (by decide +kernel), by decide, by decide +kernel, fun _ => ⟨rfl, by decide, rfl⟩, fun h => absurd h (by decide), fun h => absurd h (by decide), fun h => absurd h (by decide)⟩
theorem sf_180 : SF 30 104 12 0 3 qX12_keep := ⟨fw5 wd_1105 wd_1106 wd_1107 wd_65 wd_1108, ⟨by decide +kernel, by decide +kernel⟩, by decide +kernel, rfl, plainFor_of_name (by decide +kernel), by decide, by decide +kernel, fun _ => ⟨rfl, by decide, rfl⟩, fun h => absurd h (by decide), fun h => absurd h (by decide), fun h => absurd h (by decide)⟩
theorem sf_181 : SF 30 105 11 0 4 qX11_wet := ⟨fw5 wd_747 wd_748 wd_749 wd_53 wd_750, ⟨by decide +kernel, by decide +kernel⟩, by decide +kernel, rfl, plainFor_of_name (by decide +kernel), by decide, by decide +kernel, fun _ => ⟨rfl, by decide, rfl⟩, fun h => absurd h (by decide), fun h => absurd h (by decide), fun h => absurd h (by decide)⟩
theorem sf_182 : SF 30 109 12 0 4 qX12_wet := ⟨fw5 wd_1112 wd_1113 wd_1114 wd_65 wd_1115, ⟨by decide +kernel, by decide +kernel⟩, by decide +kernel, rfl, plainFor_of_name (by decide +kernel), by decide, by decide +kernel, fun _ => ⟨rfl, by decide, rfl⟩, fun h => absurd h (by decide), fun h => absurd h (by decide), fun h => absurd h (by decide)⟩
theorem sf_183 : SF 30 110 11 0 1 qX11_image := ⟨fw5 wd_754 wd_755 wd_756 wd_53 wd_757, ⟨by decide +kernel, by decide +kernel⟩, by decide +kernel, rfl, plainFor_of_name (by decide +kernel), by decide, by decide +kernel, fun _ => ⟨rfl, by decide, rfl⟩, fun h => absurd h (by decide), fun h => absurd h (by decide), fun h => absurd h (by decide)⟩
theorem sf_184 : SF 30 113 12 0 1 qX12_image := ⟨fw5 wd_1117 wd_1118 wd_1119 wd_65 wd_1120, ⟨by decide +kernel, by decide +kernel⟩, by decide +kernel, rfl, plainFor_of_name (by decide +kernel), by decide, by decide +kernel, fun _ => ⟨rfl, by decide, rfl⟩, fun h => absurd h (by decide), fun h => absurd h (by decide), fun h => absurd h (by decide)⟩
theorem sf_185 : SF 30 114 11 0 1 qX11_from := ⟨fw5 wd_761 wd_762 wd_763 wd_53 wd_764, ⟨by decide +kernel, by decide +kernel⟩, by decide +kernel, rfl, plainFor_of_name (by decide +kernel), by decide, by decide +kernel, fun _ => ⟨rfl, by decide, rfl⟩, fun h => absurd h (by decide), fun h => absurd h (by decide), fun h => absurd h (by decide)⟩
theorem sf_186 : SF 30 117 12 0 1 qX12_from := ⟨fw5 wd_1121 wd_1122 wd_1123 wd_65 wd_1124, ⟨by decide +kernel, by decide +kernel⟩, by decide +kernel, rfl, plainFor_of_name (by decide +kernel), by decide, by decide +kernel, fun _ => ⟨rfl, by decide, rfl⟩, fun h => absurd h (by decide), fun h => absurd h (by decide), fun h => absurd h (by decide)⟩
theorem sf_187 : SF 30 118 11 0 1 qX11_status := ⟨fw5 wd_765 wd_766 wd_767 wd_53 wd_768, ⟨by decide +kernel, by decide +kernel⟩, by decide +kernel, rfl, plainFor_of_name (by decide +kernel), by decide, by decide +kernel, fun _ => ⟨rfl, by decide, rfl⟩, fun h => absurd h (by decide), fun h => absurd h (by decide), fun h => absurd h (by decide)⟩
theorem sf_188 : SF 30 121 12 0 1 qX12_status := ⟨fw5 wd_1125 wd_1126 wd_1127 wd_65 wd_1128, ⟨by decide +kernel, by decide +kernel⟩, by decide +kernel, rfl, plainFor_of_name (by decide +kernel), by decide, by decide +kernel, fun _ => ⟨rfl, by decide, rfl⟩, fun h => absurd h (by decide), fun h => absurd h (by decide), fun h => absurd h (by decide)⟩
theorem sf_189 : SF 30 122 11 0 1 qX11_count := ⟨fw5 wd_769 wd_770 wd_771 wd_53 wd_772, ⟨by decide +kernel, by decide +kernel⟩, by decide +kernel, rfl, plainFor_of_name (by decide +kernel), by decide, by decide +kernel, fun _ => ⟨rfl, by decide, rfl⟩, fun h => absurd h (by decide), fun h => absurd h (by decide), fun h => absurd h (by decide)⟩
theorem sf_190 : SF 30 125 12 0 1 qX12_count := ⟨fw5 wd_1130 wd_1131 wd_1132 wd_65 wd_1133, ⟨by decide +kernel, by decide +kernel⟩, by decide +kernel, rfl, plainFor_of_name (by decide +kernel), by decide, by decide +kernel, fun _ => ⟨rfl, by decide, rfl⟩, fun h => absurd h (by decide), fun h => absurd h (by decide), fun h => absurd h (by decide)⟩
theorem sf_191 : SF 30 126 11 0 0 qX11_digest := ⟨fw5 wd_773 wd_774 wd_775 wd_53 wd_776, ⟨by decide +kernel, by decide +kernel⟩, by decide +kernel, rfl, plainFor_of_name (by decide +kernel), by decide, by decide +kernel, fun _ => ⟨rfl, by decide, rfl⟩, fun h => absurd h (by decide), fun h => absurd h (by decide), fun h => absurd h (by decide)⟩
theorem sf_192 : SF 30 130 12 0 0 qX12_digest := ⟨fw5 wd_1138 wd_1139 wd_1140 wd_65 wd_1141, ⟨by decide +kernel, by decide +kernel⟩, by decide +kernel, rfl, plainFor_of_name (by decide +kernel), by decide, by decide +kernel, fun _ => ⟨rfl, by decide, rfl⟩, fun h => absurd h (by decide), fun h => absurd h (by decide), fun h => absurd h (by decide)⟩
theorem sfs_0 : ∀ e ∈ sTb_0, SFe e := (List.forall_mem_cons.mpr ⟨sf_0, (List.forall_mem_cons.mpr ⟨sf_1, (List.forall_mem_cons.mpr ⟨sf_2, (List.forall_mem_cons.mpr ⟨sf_3, (List.forall_mem_cons.mpr ⟨sf_4, (List.forall_mem_cons.mpr ⟨sf_5, (List.forall_mem_cons.mpr ⟨sf_6, (List.forall_mem_cons.mpr ⟨sf_7, (List.forall_mem_cons.mpr ⟨sf_8, (List.forall_mem_cons.mpr ⟨sf_9, (List.forall_mem_cons.mpr ⟨sf_10, (List.forall_mem_cons.mpr ⟨sf_11, (List.forall_mem_cons.mpr ⟨sf_12, (List.forall_mem_cons.mpr ⟨sf_13, (List.forall_mem_cons.mpr ⟨sf_14, (List.forall_mem_cons.mpr ⟨sf_15, (List.forall_mem_cons.mpr ⟨sf_16, (List.forall_mem_cons.mpr ⟨sf_17, (List.forall_mem_cons.mpr ⟨sf_18, (List.forall_mem_cons.mpr ⟨sf_19, (List.forall_mem_cons.mpr ⟨sf_20, (List.forall_mem_cons.mpr ⟨sf_21, (List.forall_mem_cons.mpr ⟨sf_22, (List.forall_mem_cons.mpr ⟨sf_23, (List.forall_mem_cons.mpr ⟨sf_24, (fun _ h => absurd h List.not_mem_nil)⟩)⟩)⟩)⟩)⟩)⟩)⟩)⟩)⟩)⟩)⟩)⟩)⟩)⟩)⟩)⟩)⟩)⟩)⟩)⟩)⟩)⟩)⟩)⟩)⟩)
theorem sfs_1 : ∀ e ∈ sTb_1, SFe e := (List.forall_mem_cons.mpr ⟨sf_25, (List.forall_mem_cons.mpr ⟨sf_26, (List.forall_mem_cons.mpr ⟨sf_27, (List.forall_mem_cons.mpr ⟨sf_28, (List.forall_mem_cons.mpr ⟨sf_29, (List.forall_mem_cons.mpr ⟨sf_30, (List.forall_mem_cons.mpr ⟨sf_31, (List.forall_mem_cons.mpr ⟨sf_32, (List.forall_mem_cons.mpr ⟨sf_33, (List.forall_mem_cons.mpr ⟨sf_34, (List.forall_mem_cons.mpr ⟨sf_35, (List.forall_mem_cons.mpr ⟨sf_36, (List.forall_mem_cons.mpr ⟨sf_37, (List.forall_mem_cons.mpr ⟨sf_38, (List.forall_mem_cons.mpr ⟨sf_39, (List.forall_mem_cons.mpr ⟨sf_40, (List.forall_mem_cons.mpr ⟨sf_41, (List.forall_mem_cons.mpr ⟨sf_42, (List.forall_mem_cons.mpr ⟨sf_43, (List.forall_mem_cons.mpr ⟨sf_44, (List.forall_mem_cons.mpr ⟨sf_45, (List.forall_mem_cons.mpr ⟨sf_46, (List.forall_mem_cons.mpr ⟨sf_47, (List.forall_mem_cons.mpr ⟨sf_48, (List.forall_mem_cons.mpr ⟨sf_49, (fun _ h => absurd h List.not_mem_nil)⟩)⟩)⟩)⟩)⟩)⟩)⟩)⟩)⟩)⟩)⟩)⟩)⟩)⟩)⟩)⟩)⟩)⟩)⟩)⟩)⟩)⟩)⟩)⟩)⟩)
theorem sfs_2 : ∀ e ∈ sTb_2, SFe e := (List.forall_mem_cons.mpr ⟨sf_50, (List.forall_mem_cons.mpr ⟨sf_51, (List.forall_mem_cons.mpr ⟨sf_52, (List.forall_mem_cons.mpr ⟨sf_53, (List.forall_mem_cons.mpr ⟨sf_54, (List.forall_mem_cons.mpr ⟨sf_55, (List.forall_mem_cons.mpr ⟨sf_56, (List.forall_mem_cons.mpr ⟨sf_57, (List.forall_mem_cons.mpr ⟨sf_58, (List.forall_mem_cons.mpr ⟨sf_59, (List.forall_mem_cons.mpr ⟨sf_60, (List.forall_mem_cons.mpr ⟨sf_61, (List.forall_mem_cons.mpr ⟨sf_62, (List.forall_mem_cons.mpr ⟨sf_63, (List.forall_mem_cons.mpr ⟨sf_64, (List.forall_mem_cons.mpr ⟨sf_65, (List.forall_mem_cons.mpr ⟨sf_66, (List.forall_mem_cons.mpr ⟨sf_67, (List.forall_mem_cons.mpr ⟨sf_68, (List.forall_mem_cons.mpr ⟨sf_69, (List.forall_mem_cons.mpr ⟨sf_70, (List.forall_mem_cons.mpr ⟨sf_71, (List.forall_mem_cons.mpr ⟨sf_72, (List.forall_mem_cons.mpr ⟨sf_73, (List.forall_mem_cons.mpr ⟨sf_74, (fun _ h => absurd h List.not_mem_nil)⟩)⟩)⟩)⟩)⟩)⟩)⟩)⟩)⟩)⟩)⟩)⟩)⟩)⟩)⟩)⟩)⟩)⟩)⟩)⟩)⟩)⟩)⟩)⟩)⟩)
theorem sfs_3 : ∀ e ∈ sTb_3, SFe e := (List.forall_mem_cons.mpr ⟨sf_75, (List.forall_mem_cons.mpr ⟨sf_76, (List.forall_mem_cons.mpr ⟨sf_77, (List.forall_mem_cons.mpr ⟨sf_78, (List.forall_mem_cons.mpr ⟨sf_79, (List.forall_mem_cons.mpr ⟨sf_80, (List.forall_mem_cons.mpr ⟨sf_81, (List.forall_mem_cons.mpr ⟨sf_82, (List.forall_mem_cons.mpr ⟨sf_83, (List.forall_mem_cons.mpr ⟨sf_84, (List.forall_mem_cons.mpr ⟨sf_85, (List.forall_mem_cons.mpr ⟨sf_86, (List.forall_mem_cons.mpr ⟨sf_87, (List.forall_mem_cons.mpr ⟨sf_88, (List.forall_mem_cons.mpr ⟨sf_89, (List.forall_mem_cons.mpr ⟨sf_90, (List.forall_mem_cons.mpr ⟨sf_91, (List.forall_mem_cons.mpr ⟨sf_92, (List.forall_mem_cons.mpr ⟨sf_93, (List.forall_mem_cons.mpr ⟨sf_94, (List.forall_mem_cons.mpr ⟨sf_95, (List.forall_mem_cons.mpr ⟨sf_96, (List.forall_mem_cons.mpr ⟨sf_97, (List.forall_mem_cons.mpr ⟨sf_98, (List.forall_mem_cons.mpr ⟨sf_99, (fun _ h => absurd h List.not_mem_nil)⟩)⟩)⟩)⟩)⟩)⟩)⟩)⟩)⟩)⟩)⟩)⟩)⟩)⟩)⟩)⟩)⟩)⟩)⟩)⟩)⟩)⟩)⟩)⟩)⟩)
theorem sfs_4 : ∀ e ∈ sTb_4, SFe e := (List.forall_mem_cons.mpr ⟨sf_100, (List.forall_mem_cons.mpr ⟨sf_101, (List.forall_mem_cons.mpr ⟨sf_102, (List.forall_mem_cons.mpr ⟨sf_103, (List.forall_mem_cons.mpr ⟨sf_104, (List.forall_mem_cons.mpr ⟨sf_105, (List.forall_mem_cons.mpr ⟨sf_106, (List.forall_mem_cons.mpr ⟨sf_107, (List.forall_mem_cons.mpr ⟨sf_108, (List.forall_mem_cons.mpr ⟨sf_109, (List.forall_mem_cons.mpr ⟨sf_110, (List.forall_mem_cons.mpr ⟨sf_111, (List.forall_mem_cons.mpr ⟨sf_112, (List.forall_mem_cons.mpr ⟨sf_113, (List.forall_mem_cons.mpr ⟨sf_114, (List.forall_mem_cons.mpr ⟨sf_115, (List.forall_mem_cons.mpr ⟨sf_116, (List.forall_mem_cons.mpr ⟨sf_117, (List.forall_mem_cons.mpr ⟨sf_118, (List.forall_mem_cons.mpr ⟨sf_119, (List.forall_mem_cons.mpr ⟨sf_120, (List.forall_mem_cons.mpr ⟨sf_121, (List.forall_mem_cons.mpr ⟨sf_122, (List.forall_mem_cons.mpr ⟨sf_123, (List.forall_mem_cons.mpr ⟨sf_124, (fun _ h => absurd h List.not_mem_nil)⟩)⟩)⟩)⟩)⟩)⟩)⟩)⟩)⟩)⟩)⟩)⟩)⟩)⟩)⟩)⟩)⟩)⟩)⟩)⟩)⟩)⟩)⟩)⟩)⟩)
theorem sfs_5 : ∀ e ∈ sTb_5, SFe e := (List.forall_mem_cons.mpr ⟨sf_125, (List.forall_mem_cons.mpr ⟨sf_126, (List.forall_mem_cons.mpr ⟨sf_127, (List.forall_mem_cons.mpr ⟨sf_128, (List.forall_mem_cons.mpr ⟨sf_129, (List.forall_mem_cons.mpr ⟨sf_130, (List.forall_mem_cons.mpr ⟨sf_131, (List.forall_mem_cons.mpr ⟨sf_132, (List.forall_mem_cons.mpr ⟨sf_133, (List.forall_mem_cons.mpr ⟨sf_134, (List.forall_mem_cons.mpr ⟨sf_135, (List.forall_mem_cons.mpr ⟨sf_136, (List.forall_mem_cons.mpr ⟨sf_137, (List.forall_mem_cons.mpr ⟨sf_138, (List.forall_mem_cons.mpr ⟨sf_139, (List.forall_mem_cons.mpr ⟨sf_140, (List.forall_mem_cons.mpr ⟨sf_141, (List.forall_mem_cons.mpr ⟨sf_142, (List.forall_mem_cons.mpr ⟨sf_143, (List.forall_mem_cons.mpr ⟨sf_144, (List.forall_mem_cons.mpr ⟨sf_145, (List.forall_mem_cons.mpr ⟨sf_146, (List.forall_mem_cons.mpr ⟨sf_147, (List.forall_mem_cons.mpr ⟨sf_148, (List.forall_mem_cons.mpr ⟨sf_149, (fun _ h => absurd h List.not_mem_nil)⟩)⟩)⟩)⟩)⟩)⟩)⟩)⟩)⟩)⟩)⟩)⟩)⟩)⟩)⟩)⟩)⟩)⟩)⟩)⟩)⟩)⟩)⟩)⟩)⟩)
theorem sfs_6 : ∀ e ∈ sTb_6, SFe e := (List.forall_mem_cons.mpr ⟨sf_150, (List.forall_mem_cons.mpr ⟨sf_151, (List.forall_mem_cons.mpr ⟨sf_152, (List.forall_mem_cons.mpr ⟨sf_153, (List.forall_mem_cons.mpr ⟨sf_154, (List.forall_mem_cons.mpr ⟨sf_155, (List.forall_mem_cons.mpr ⟨sf_156, (List.forall_mem_cons.mpr ⟨sf_157, (List.forall_mem_cons.mpr ⟨sf_158, (List.forall_mem_cons.mpr ⟨sf_159, (List.forall_mem_cons.mpr ⟨sf_160, (List.forall_mem_cons.mpr ⟨sf_161, (List.forall_mem_cons.mpr ⟨sf_162, (List.forall_mem_cons.mpr ⟨sf_163, (List.forall_mem_cons.mpr ⟨sf_164, (List.forall_mem_cons.mpr ⟨sf_165, (List.forall_mem_cons.mpr ⟨sf_166, (List.forall_mem_cons.mpr ⟨sf_167, (List.forall_mem_cons.mpr ⟨sf_168, (List.forall_mem_cons.mpr ⟨sf_169, (List.forall_mem_cons.mpr ⟨sf_170, (List.forall_mem_cons.mpr ⟨sf_171, (List.forall_mem_cons.mpr ⟨sf_172, (List.forall_mem_cons.mpr ⟨sf_173, (List.forall_mem_cons.mpr ⟨sf_174, (fun _ h => absurd h List.not_mem_nil)⟩)⟩)⟩)⟩)⟩)⟩)⟩)⟩)⟩)⟩)⟩)⟩)⟩)⟩)⟩)⟩)⟩)⟩)⟩)⟩)⟩)⟩)⟩)⟩)⟩)
theorem sfs_7 : ∀ e ∈ sTb_7, SFe e := (List.forall_mem_cons.mpr ⟨sf_175, (List.forall_mem_cons.mpr ⟨sf_176, (List.forall_mem_cons.mpr ⟨sf_177, (List.forall_mem_cons.mpr ⟨sf_178, (List.forall_mem_cons.mpr ⟨sf_179, (List.forall_mem_cons.mpr ⟨sf_180, (List.forall_mem_cons.mpr ⟨sf_181, (List.forall_mem_cons.mpr ⟨sf_182, (List.forall_mem_cons.mpr ⟨sf_183, (List.forall_mem_cons.mpr ⟨sf_184, (List.forall_mem_cons.mpr ⟨sf_185, (List.forall_mem_cons.mpr ⟨sf_186, (List.forall_mem_cons.mpr ⟨sf_187, (List.forall_mem_cons.mpr ⟨sf_188, (List.forall_mem_cons.mpr ⟨sf_189, (List.forall_mem_cons.mpr ⟨sf_190, (List.forall_mem_cons.mpr ⟨sf_191, (List.forall_mem_cons.mpr ⟨sf_192, (fun _ h => absurd h List.not_mem_nil)⟩)⟩)⟩)⟩)⟩)⟩)⟩)⟩)⟩)⟩)⟩)⟩)⟩)⟩)⟩)⟩)⟩)⟩)
theorem sTb_ok : ∀ e ∈ sTb, SFe e := List.forall_mem_append.mpr ⟨sfs_0, List.forall_mem_append.mpr ⟨sfs_1, List.forall_mem_append.mpr ⟨sfs_2, List.forall_mem_append.mpr ⟨sfs_3, List.forall_mem_append.mpr ⟨sfs_4, List.forall_mem_append.mpr ⟨sfs_5, List.forall_mem_append.mpr ⟨sfs_6, sfs_7⟩⟩⟩⟩⟩⟩⟩
theorem sTab_facts {ow k C kd n : Nat} {q : MI} (h : sTab ow k C = some (kd, n, q)) : SF ow k C kd n q := by
  unfold sTab at h
  cases hf : sTb.find? (fun q => q.1 == ow && (q.2.1 == k && q.2.2.1 == C)) with
  | none => rw [hf] at h; cases h
  | some e =>
    rw [hf] at h
    obtain ⟨a, b, c, kd', n', q'⟩ := e
    have hp := List.find?_some hf
    have hm := List.mem_of_find?_eq_some hf
    have hk := sTb_ok _ hm
    simp only [Option.map_some, Option.some.injEq, Prod.mk.injEq] at h
    obtain ⟨rfl, rfl, rfl⟩ := h
    simp only [Bool.and_eq_true, beq_iff_eq] at hp
    obtain ⟨rfl, rfl, rfl⟩ := hp
    exact hk
set_option maxRecDepth 100000 in
theorem kTb_ok : kTb.all (fun q => decide (lw_tbl[q.2.2.2]? = some (Cond.constant (oNm q.1) q.2.1 (Int32.ofInt q.2.2.1))) && decide (ir q.2.2.1)) = true := by decide +kernel
set_option maxRecDepth 100000 in
theorem lTb_ok : lTb.all (fun q => decide (lw_tbl[q.2.2.2]? = some (Cond.constantLong (oNm q.1) q.2.1 (Int64.ofInt q.2.2.1))) && decide (lr q.2.2.1)) = true := by decide +kernel
theorem kTab_facts {ow k : Nat} {x : Int} (h : kTab ow k = some x) : Cond.constant (oNm ow) k (Int32.ofInt x) ∈ lw_good ∧ ir x := by
  unfold kTab at h
  cases hf : kTb.find? (fun q => q.1 == ow && q.2.1 == k) with
  | none => rw [hf] at h; cases h
  | some e =>
    rw [hf] at h
    obtain ⟨a, b, c, ix⟩ := e
    have hp := List.find?_some hf
    have hk := List.all_eq_true.mp kTb_ok _ (List.mem_of_find?_eq_some hf)
    simp only [Option.map_some, Option.some.injEq] at h
    subst h
    simp only [Bool.and_eq_true, beq_iff_eq] at hp
    obtain ⟨rfl, rfl⟩ := hp
    simp only [Bool.and_eq_true, decide_eq_true_eq] at hk
    exact ⟨good_of hk.1 rfl, hk.2⟩
theorem lTab_facts {ow k : Nat} {x : Int} (h : lTab ow k = some x) : Cond.constantLong (oNm ow) k (Int64.ofInt x) ∈ lw_good ∧ lr x := by
  unfold lTab at h
  cases hf : lTb.find? (fun q => q.1 == ow && q.2.1 == k) with
  | none => rw [hf] at h; cases h
  | some e =>
    rw [hf] at h
    obtain ⟨a, b, c, ix⟩ := e
    have hp := List.find?_some hf
    have hk := List.all_eq_true.mp lTb_ok _ (List.mem_of_find?_eq_some hf)
    simp only [Option.map_some, Option.some.injEq] at h
    subst h
    simp only [Bool.and_eq_true, beq_iff_eq] at hp
    obtain ⟨rfl, rfl⟩ := hp
    simp only [Bool.and_eq_true, decide_eq_true_eq] at hk
    exact ⟨good_of hk.1 rfl, hk.2⟩
/-- the fields' words of each class -/
def inAll (C : String) (T : u_T) (N : Nat) : Bool := (u_ws C T N).all (fun w => decide (w ∈ lw_tbl) && goodWord w)
theorem inW_of {C : String} {T : u_T} {N : Nat} (h : inAll C T N = true) : ∀ w ∈ u_ws C T N, w ∈ lw_good := fun w hw => by
  have := List.all_eq_true.mp h w hw
  simp only [Bool.and_eq_true, decide_eq_true_eq] at this
  exact List.mem_filter.mpr this
set_option maxRecDepth 100000 in
theorem inW_2 : inAll RX2 TX2 15 = true := by decide +kernel
set_option maxRecDepth 100000 in
theorem inW_6 : inAll RX6 TX6 2 = true := by decide +kernel
set_option maxRecDepth 100000 in
theorem inW_8 : inAll RX8 TX8 2 = true := by decide +kernel
set_option maxRecDepth 100000 in
theorem inW_9 : inAll RX9 TX9 5 = true := by decide +kernel
set_option maxRecDepth 100000 in
theorem inW_10 : inAll RX10 TX10 6 = true := by decide +kernel
set_option maxRecDepth 100000 in
theorem inW_11 : inAll RX11 TX11 10 = true := by decide +kernel
set_option maxRecDepth 100000 in
theorem inW_12 : inAll RX12 TX12 24 = true := by decide +kernel
theorem inW {ci : Nat} (h : ci < 13) : ∀ w ∈ u_ws (clN ci).1 (clN ci).2.1 (clN ci).2.2, w ∈ lw_good := by
  match ci, h with
  | 0, _ => exact fun w hw => absurd hw (by show w ∉ u_ws RX0 TX0 0; simp [u_ws])
  | 1, _ => exact fun w hw => absurd hw (by show w ∉ u_ws RX1 TX1 0; simp [u_ws])
  | 2, _ => exact inW_of inW_2
  | 3, _ => exact fun w hw => absurd hw (by show w ∉ u_ws RX3 TX3 0; simp [u_ws])
  | 4, _ => exact fun w hw => absurd hw (by show w ∉ u_ws RX4 TX4 0; simp [u_ws])
  | 5, _ => exact fun w hw => absurd hw (by show w ∉ u_ws RX5 TX5 0; simp [u_ws])
  | 6, _ => exact inW_of inW_6
  | 7, _ => exact fun w hw => absurd hw (by show w ∉ u_ws RX7 TX7 0; simp [u_ws])
  | 8, _ => exact inW_of inW_8
  | 9, _ => exact inW_of inW_9
  | 10, _ => exact inW_of inW_10
  | 11, _ => exact inW_of inW_11
  | 12, _ => exact inW_of inW_12
  | k + 13, h => exact absurd h (by omega)
def clTy (ci : Nat) : Nat → FieldType := match ci with
  | 2 => tyX2
  | 6 => tyX6
  | 8 => tyX8
  | 9 => tyX9
  | 10 => tyX10
  | 11 => tyX11
  | 12 => tyX12
  | _ => tyX0
theorem clTy_ok {ci : Nat} (h : ci < 13) : (∀ k, k < (clN ci).2.2 → parseFieldDescriptor ((clN ci).2.1 k).2.2.1 = some (clTy ci k)) ∧ ∀ a, a < (clN ci).2.2 → ∀ b, b < (clN ci).2.2 → a ≠ b → ((clN ci).2.1 a).2.1 ≠ ((clN ci).2.1 b).2.1 := by
  match ci, h with
  | 0, _ => exact ⟨fun k hk => absurd hk (Nat.not_lt_zero k), fun k hk => absurd hk (Nat.not_lt_zero k)⟩
  | 1, _ => exact ⟨fun k hk => absurd hk (Nat.not_lt_zero k), fun k hk => absurd hk (Nat.not_lt_zero k)⟩
  | 2, _ => exact ⟨tyX2_ok, nmX2⟩
  | 3, _ => exact ⟨fun k hk => absurd hk (Nat.not_lt_zero k), fun k hk => absurd hk (Nat.not_lt_zero k)⟩
  | 4, _ => exact ⟨fun k hk => absurd hk (Nat.not_lt_zero k), fun k hk => absurd hk (Nat.not_lt_zero k)⟩
  | 5, _ => exact ⟨fun k hk => absurd hk (Nat.not_lt_zero k), fun k hk => absurd hk (Nat.not_lt_zero k)⟩
  | 6, _ => exact ⟨tyX6_ok, nmX6⟩
  | 7, _ => exact ⟨fun k hk => absurd hk (Nat.not_lt_zero k), fun k hk => absurd hk (Nat.not_lt_zero k)⟩
  | 8, _ => exact ⟨tyX8_ok, nmX8⟩
  | 9, _ => exact ⟨tyX9_ok, nmX9⟩
  | 10, _ => exact ⟨tyX10_ok, nmX10⟩
  | 11, _ => exact ⟨tyX11_ok, nmX11⟩
  | 12, _ => exact ⟨tyX12_ok, nmX12⟩
  | k + 13, h => exact absurd h (by omega)
/-- words of nest mates, and how they hold on -/
def nFrm (w : Cond) : Bool := match w with
  | .fieldLinkNest .. => true
  | .methodLinkNest .. => true
  | _ => false
theorem nestW_frm : nestW.all nFrm = true := by decide +kernel
theorem nestW_warm {w : Cond} (hw : w ∈ nestW) {s U : State} (hW : s.WarmedH U.vm) (h : va_Nw w s) : va_Nw w U := by
  have hf := List.all_eq_true.mp nestW_frm w hw
  cases w <;> first | exact va_Nw.warmF hW h | exact va_Nw.warmM hW h | exact absurd hf (by simp [nFrm])
theorem nestW_tab {w : Cond} (hw : w ∈ nestW) : w.onTables = true := by
  have hf := List.all_eq_true.mp nestW_frm w hw
  cases w <;> first | rfl | exact absurd hf (by simp [nFrm])
end
section
/-! THE SHADOW IS SOUND, first half: values, cells, locals; one instruction -/
def rv (ad : Nat → Nat) (v : SV) : Value := match v with
  | .inl x => .int (Int32.ofInt x)
  | .inr (.inl x) => .long (Int64.ofInt x)
  | .inr (.inr (.inl a)) => .ref (ad a)
  | .inr (.inr (.inr _)) => .null
def okV (v : SV) : Prop := match v with
  | .inl x => ir x
  | .inr (.inl x) => lr x
  | .inr (.inr _) => True
def lgS (a i : Nat) : Bool := cK a == 101 || (cK a == 12 && i == 23)
def okH (g : Hp) : Prop := ∀ a i, (lgS a i = true → lr (g a i)) ∧ (lgS a i = false → ir (g a i))
def aTy (k : Nat) : FieldType := match k with
  | 100 => .int
  | 101 => .long
  | 102 => .boolean
  | 103 => .object RX7
  | _ => .object RX2
def fV (ad : Nat → Nat) (g : Hp) (ci k i : Nat) : Value := match fTy ci i with
  | 0 => .int (Int32.ofInt (g k i))
  | 1 => .long (Int64.ofInt (g k i))
  | _ => .ref (ad (cRef k i))
def arrE (ad : Nat → Nat) (g : Hp) (k : Nat) : (Nat → Int32) ⊕ (Nat → Int64) ⊕ (Nat → UInt32) ⊕ (Nat → UInt64) ⊕ (Nat → Option Nat) :=
  if cK k = 101 then .inr (.inl (fun i => Int64.ofInt (g k i))) else if cK k = 103 ∨ cK k = 104 then .inr (.inr (.inr (.inr (fun i => some (ad (cRef k i)))))) else .inl (fun i => Int32.ofInt (g k i))
def ent (ad : Nat → Nat) (cA : Nat → ClassId) (g : Hp) (k : Nat) : va_E :=
  if cK k < 100 then .inr (cK k, (List.range (fNm (cK k))).map (fun i => fV ad g (cK k) k i)) else .inl (cA k, cLn k, arrE ad g k)
def wl (ad : Nat → Nat) (cA : Nat → ClassId) (g : Hp) : va_W := (List.range cNum).map (fun k => (ad k, ent ad cA g k))
def ShA (ad : Nat → Nat) : Nat → Prop := fun q => ∃ k, k < cNum ∧ q = ad k
theorem cK_lt {a : Nat} (h : cK a ≠ 999) : a < cNum := by
  by_cases hl : a < cNum
  · exact hl
  · exfalso
    apply h
    have : cKl.length = cNum := rfl
    simp [cK, List.getD, List.getElem?_eq_none (show cKl.length ≤ a by omega)]
theorem wl_get (ad : Nat → Nat) (cA : Nat → ClassId) (g : Hp) {k : Nat} (hk : k < cNum) : (wl ad cA g)[k]? = some (ad k, ent ad cA g k) := by
  simp [wl, hk]
theorem ent_congr {ad : Nat → Nat} {cA : Nat → ClassId} {g g' : Hp} {k : Nat} (h : ∀ i, g k i = g' k i) : ent ad cA g k = ent ad cA g' k := by
  have e1 : (fun i => fV ad g (cK k) k i) = (fun i => fV ad g' (cK k) k i) := by funext i; simp only [fV, h i]
  have e2 : arrE ad g k = arrE ad g' k := by simp only [arrE, h]
  simp only [ent, e1, e2]
theorem wl_set {ad : Nat → Nat} {cA : Nat → ClassId} {g g' : Hp} {k : Nat} {e : va_E} (he : ent ad cA g' k = e) (h : ∀ j, j ≠ k → ∀ i, g' j i = g j i) : (wl ad cA g).set k (ad k, e) = wl ad cA g' := by
  apply List.ext_getElem?
  intro j
  by_cases hj : j < cNum
  · by_cases hjk : j = k
    · subst hjk
      rw [List.getElem?_set_self (by simp [wl, hj]), wl_get _ _ _ hj, he]
    · rw [List.getElem?_set_ne (fun e => hjk e.symm), wl_get _ _ _ hj, wl_get _ _ _ hj, ent_congr (h j hjk)]
  · have h1 : (wl ad cA g').length = cNum := by simp [wl]
    have h2 : ((wl ad cA g).set k (ad k, e)).length = cNum := by simp [wl]
    rw [List.getElem?_eq_none (by omega), List.getElem?_eq_none (by omega)]
theorem wl_D {ad : Nat → Nat} (cA : Nat → ClassId) (g : Hp) (hinj : ∀ i j, i < cNum → j < cNum → ad i = ad j → i = j) : va_D (ShA ad) (wl ad cA g) := by
  have key : ∀ (k : Nat) (q : Nat × va_E), (wl ad cA g)[k]? = some q → k < cNum ∧ q.1 = ad k := by
    intro k q hk
    have hl : k < cNum := by
      have := (List.getElem?_eq_some_iff.mp hk).1
      simpa [wl] using this
    rw [wl_get _ _ _ hl] at hk
    cases hk
    exact ⟨hl, rfl⟩
  refine ⟨fun i j p q hi hj hpq => ?_, fun k q hk => ?_⟩
  · obtain ⟨a1, a2⟩ := key i p hi
    obtain ⟨b1, b2⟩ := key j q hj
    exact hinj i j a1 b1 (by rw [← a2, ← b2, hpq])
  · obtain ⟨a1, a2⟩ := key k q hk
    exact ⟨k, a1, a2⟩
theorem ir_of (z : Int32) : ir z.toInt := ⟨by have := Int32.le_toInt z; simpa using this, by have := Int32.toInt_lt z; simpa using this⟩
theorem lr_of (z : Int64) : lr z.toInt := ⟨by have := Int64.le_toInt z; simpa using this, by have := Int64.toInt_lt z; simpa using this⟩
theorem i32_ti {x : Int} (h : ir x) : (Int32.ofInt x).toInt = x := Int32.toInt_ofInt_of_le (by have := h.1; omega) (by have := h.2; omega)
theorem i64_ti {x : Int} (h : lr x) : (Int64.ofInt x).toInt = x := Int64.toInt_ofInt_of_le (by have := h.1; omega) (by have := h.2; omega)
theorem w32_id {x : Int} (h : ir x) : w32 x = x := i32_ti h
theorem w64_id {x : Int} (h : lr x) : w64 x = x := i64_ti h
theorem w32_ir (x : Int) : ir (w32 x) := ir_of _
theorem w64_lr (x : Int) : lr (w64 x) := lr_of _
theorem o32 (z : Int32) : Int32.ofInt z.toInt = z := Int32.ofInt_toInt z
theorem o64 (z : Int64) : Int64.ofInt z.toInt = z := Int64.ofInt_toInt z
theorem i32_lt {a b : Int} (ha : ir a) (hb : ir b) : Int32.ofInt a < Int32.ofInt b ↔ a < b := by rw [Int32.lt_iff_toInt_lt, i32_ti ha, i32_ti hb]
theorem i32_le {a b : Int} (ha : ir a) (hb : ir b) : Int32.ofInt a ≤ Int32.ofInt b ↔ a ≤ b := by rw [Int32.le_iff_toInt_le, i32_ti ha, i32_ti hb]
theorem i32_eq {a b : Int} (ha : ir a) (hb : ir b) : Int32.ofInt a = Int32.ofInt b ↔ a = b := by rw [← Int32.toInt_inj, i32_ti ha, i32_ti hb]
theorem i64_lt {a b : Int} (ha : lr a) (hb : lr b) : Int64.ofInt a < Int64.ofInt b ↔ a < b := by rw [Int64.lt_iff_toInt_lt, i64_ti ha, i64_ti hb]
theorem i64_eq {a b : Int} (ha : lr a) (hb : lr b) : Int64.ofInt a = Int64.ofInt b ↔ a = b := by rw [← Int64.toInt_inj, i64_ti ha, i64_ti hb]
theorem i32_cl {x : Int} (h : ir x) : (Int32.ofInt x).toNatClampNeg = x.toNat := by
  show (Int32.ofInt x).toInt.toNat = x.toNat
  rw [i32_ti h]
theorem i32_in {x : Int} {n : Nat} (h : ir x) (h0 : 0 ≤ x) (hn : x < n) : vp_in (Int32.ofInt x) n := by
  intro hh
  rcases hh with hh | hh
  · have : Int32.ofInt x < Int32.ofInt 0 := hh
    rw [i32_lt h (by decide)] at this
    omega
  · rw [i32_cl h] at hh
    omega
theorem i32_nn {x : Int} (h : ir x) (h0 : 0 ≤ x) : ¬ Int32.ofInt x < 0 := by
  intro hh
  have : Int32.ofInt x < Int32.ofInt 0 := hh
  rw [i32_lt h (by decide)] at this
  omega
theorem i32_add (a b : Int) : Int32.ofInt a + Int32.ofInt b = Int32.ofInt (w32 (a + b)) := by rw [w32, o32, Int32.ofInt_add]
theorem i32_sub (a b : Int) : Int32.ofInt a - Int32.ofInt b = Int32.ofInt (w32 (a - b)) := by rw [w32, o32, Int32.ofInt_sub]
theorem i32_mul (a b : Int) : Int32.ofInt a * Int32.ofInt b = Int32.ofInt (w32 (a * b)) := by rw [w32, o32, Int32.ofInt_mul]
theorem i64_add (a b : Int) : Int64.ofInt a + Int64.ofInt b = Int64.ofInt (w64 (a + b)) := by rw [w64, o64, Int64.ofInt_add]
theorem i64_sub (a b : Int) : Int64.ofInt a - Int64.ofInt b = Int64.ofInt (w64 (a - b)) := by rw [w64, o64, Int64.ofInt_sub]
theorem i64_mul (a b : Int) : Int64.ofInt a * Int64.ofInt b = Int64.ofInt (w64 (a * b)) := by rw [w64, o64, Int64.ofInt_mul]
theorem i32_div {a b : Int} (ha : ir a) (hb : ir b) (h0 : 0 ≤ a) (h1 : 0 < b) : Int32.ofInt a / Int32.ofInt b = Int32.ofInt (a / b) := by
  have h2 : ir (a / b) := by
    have h3 := Int.ediv_nonneg h0 (Int.le_of_lt h1)
    have h4 := Int.ediv_le_self b h0
    exact ⟨by omega, by have := ha.2; omega⟩
  rw [← Int32.toInt_inj, i32_ti h2, Int32.toInt_div_of_ne_right]
  · rw [i32_ti ha, i32_ti hb, Int.tdiv_eq_ediv_of_nonneg h0]
  · intro h
    have := (i32_eq hb (show ir (-1) by decide)).mp h
    omega
theorem i32_rem {a b : Int} (ha : ir a) (hb : ir b) (h0 : 0 ≤ a) (h1 : 0 < b) : Int32.ofInt a - Int32.ofInt a / Int32.ofInt b * Int32.ofInt b = Int32.ofInt (a % b) := by
  rw [i32_div ha hb h0 h1, ← Int32.ofInt_mul, ← Int32.ofInt_sub]
  congr 1
  have := Int.mul_ediv_add_emod a b
  rw [Int.mul_comm (a / b) b]
  omega
theorem rem_ir {a b : Int} (ha : ir a) (hb : ir b) (h1 : 0 < b) : ir (a % b) := by
  have h2 := Int.emod_nonneg a (by omega : b ≠ 0)
  have h3 := Int.emod_lt_of_pos a h1
  exact ⟨by omega, by have := hb.2; omega⟩
theorem div_ir {a b : Int} (ha : ir a) (h0 : 0 ≤ a) (h1 : 0 < b) : ir (a / b) := by
  have h3 := Int.ediv_nonneg h0 (Int.le_of_lt h1)
  have h4 := Int.ediv_le_self b h0
  exact ⟨by omega, by have := ha.2; omega⟩
/-! locals -/
def isU (v : SV) : Bool := match v with
  | .inr (.inr (.inr _)) => true
  | _ => false
def lvl (ad : Nat → Nat) (ls : List SV) : List (Nat × Value) := ls.zipIdx.filterMap (fun q => if isU q.1 then none else some (q.2, rv ad q.1))
theorem lvl_mem {ad : Nat → Nat} {ls : List SV} {k : Nat} {w : Value} : (k, w) ∈ lvl ad ls ↔ ∃ v, ls[k]? = some v ∧ isU v = false ∧ w = rv ad v := by
  unfold lvl
  rw [List.mem_filterMap]
  constructor
  · rintro ⟨⟨v, i⟩, h1, h2⟩
    rw [List.mk_mem_zipIdx_iff_getElem?] at h1
    by_cases hu : isU v = true
    · simp [hu] at h2
    · simp [hu] at h2
      obtain ⟨rfl, rfl⟩ := h2
      exact ⟨v, h1, by simpa using hu, rfl⟩
  · rintro ⟨v, h1, h2, rfl⟩
    refine ⟨(v, k), ?_, by simp [h2]⟩
    rw [List.mk_mem_zipIdx_iff_getElem?]
    exact h1
theorem lvl_at {ad : Nat → Nat} {ls : List SV} {ra : Array Slot} {nL k : Nat} {v : SV} (h : lv_has ra nL (lvl ad ls)) (hk : ls[k]? = some v) (hu : isU v = false) : ra[k]? = some (.val (rv ad v)) :=
  h.2.2 (k, rv ad v) (lvl_mem.mpr ⟨v, hk, hu, rfl⟩)
theorem lv_less {ra : Array Slot} {nL : Nat} {l l' : List (Nat × Value)} (h : lv_has ra nL l) (hs : ∀ q ∈ l', q ∈ l) : lv_has ra nL l' := ⟨h.1, h.2.1, fun q hq => h.2.2 q (hs q hq)⟩
theorem kl_len (ls : List SV) (k : Nat) : (kl ls k).length = ls.length := by
  unfold kl
  cases k with
  | zero => rfl
  | succ j => simp only; split <;> simp
theorem kl_get {ls : List SV} {k j : Nat} {v : SV} (h : (kl ls k)[j]? = some v) (hu : isU v = false) : ls[j]? = some v ∧ ¬ (j + 1 = k ∧ cat v = 2) := by
  unfold kl at h
  cases k with
  | zero => exact ⟨h, by omega⟩
  | succ m =>
    simp only at h
    split at h
    · by_cases hjm : j = m
      · subst hjm
        rename_i y hy
        rw [List.getElem?_set_self (List.getElem?_eq_some_iff.mp hy).1] at h
        cases h
        simp [isU] at hu
      · rw [List.getElem?_set_ne (fun e => hjm e.symm)] at h
        exact ⟨h, fun e => hjm (by omega)⟩
    · rename_i hno
      refine ⟨h, fun e => ?_⟩
      have hjm : j = m := by omega
      subst hjm
      rcases v with x | x | x
      · simp [cat] at e
      · exact hno x h
      · simp [cat] at e
theorem st1_sub {ad : Nat → Nat} {ls : List SV} {k : Nat} {v : SV} (hc : cat v = 1) : ∀ q ∈ lvl ad (st1 ls k v), q ∈ (k, rv ad v) :: (lvl ad ls).filter (fun q => !(q.1 == k) && !(q.1 + 1 == k && q.2.category == 2)) := by
  rintro ⟨j, w⟩ hq
  obtain ⟨u, h1, h2, rfl⟩ := lvl_mem.mp hq
  unfold st1 at h1
  by_cases hjk : j = k
  · subst hjk
    have hl : j < (kl ls j).length := by
      have := (List.getElem?_eq_some_iff.mp h1).1
      simpa using this
    rw [List.getElem?_set_self hl] at h1
    cases h1
    exact List.mem_cons_self
  · rw [List.getElem?_set_ne (fun e => hjk e.symm)] at h1
    obtain ⟨h3, h4⟩ := kl_get h1 h2
    refine List.mem_cons_of_mem _ (List.mem_filter.mpr ⟨lvl_mem.mpr ⟨u, h3, h2, rfl⟩, ?_⟩)
    have : ¬ (j + 1 = k ∧ (rv ad u).category = 2) := by
      rintro ⟨e1, e2⟩
      refine h4 ⟨e1, ?_⟩
      rcases u with x | x | x | x
      · simp [rv, Value.category] at e2
      · rfl
      · simp [rv, Value.category] at e2
      · simp [rv, Value.category] at e2
    simp only [Bool.and_eq_true, Bool.not_eq_true', beq_eq_false_iff_ne, ne_eq, Bool.and_eq_false_iff]
    refine ⟨hjk, ?_⟩
    by_cases e1 : j + 1 = k
    · exact Or.inr (fun e2 => this ⟨e1, e2⟩)
    · exact Or.inl e1
theorem st2_sub {ad : Nat → Nat} {ls : List SV} {k : Nat} {v : SV} : ∀ q ∈ lvl ad (st2 ls k v), q ∈ (k, rv ad v) :: (lvl ad ls).filter (fun q => !(q.1 == k) && (!(q.1 == k + 1) && !(q.1 + 1 == k && q.2.category == 2))) := by
  rintro ⟨j, w⟩ hq
  obtain ⟨u, h1, h2, rfl⟩ := lvl_mem.mp hq
  unfold st2 at h1
  by_cases hj2 : j = k + 1
  · subst hj2
    have hl : k + 1 < ((kl ls k).set k v).length := by
      have := (List.getElem?_eq_some_iff.mp h1).1
      simpa using this
    rw [List.getElem?_set_self hl] at h1
    cases h1
    simp [isU] at h2
  · rw [List.getElem?_set_ne (fun e => hj2 e.symm)] at h1
    by_cases hjk : j = k
    · subst hjk
      have hl : j < (kl ls j).length := by
        have := (List.getElem?_eq_some_iff.mp h1).1
        simpa using this
      rw [List.getElem?_set_self hl] at h1
      cases h1
      exact List.mem_cons_self
    · rw [List.getElem?_set_ne (fun e => hjk e.symm)] at h1
      obtain ⟨h3, h4⟩ := kl_get h1 h2
      refine List.mem_cons_of_mem _ (List.mem_filter.mpr ⟨lvl_mem.mpr ⟨u, h3, h2, rfl⟩, ?_⟩)
      have : ¬ (j + 1 = k ∧ (rv ad u).category = 2) := by
        rintro ⟨e1, e2⟩
        refine h4 ⟨e1, ?_⟩
        rcases u with x | x | x | x
        · simp [rv, Value.category] at e2
        · rfl
        · simp [rv, Value.category] at e2
        · simp [rv, Value.category] at e2
      simp only [Bool.and_eq_true, Bool.not_eq_true', beq_eq_false_iff_ne, ne_eq, Bool.and_eq_false_iff]
      refine ⟨hjk, hj2, ?_⟩
      by_cases e1 : j + 1 = k
      · exact Or.inr (fun e2 => this ⟨e1, e2⟩)
      · exact Or.inl e1
theorem set_ok {ls : List SV} {k : Nat} {v : SV} (h : ∀ x ∈ ls, okV x) (hv : okV v) : ∀ x ∈ ls.set k v, okV x := fun x hx => (List.mem_or_eq_of_mem_set hx).elim (h x) (fun e => e ▸ hv)
theorem kl_ok {ls : List SV} {k : Nat} (h : ∀ x ∈ ls, okV x) : ∀ x ∈ kl ls k, okV x := by
  unfold kl
  cases k with
  | zero => exact h
  | succ j =>
    simp only
    split
    · exact set_ok h trivial
    · exact h
end
section
/-! THE SHADOW IS SOUND: what an instruction keeps, in numbers -/
theorem up_ok {g : Hp} {a i : Nat} {x : Int} (hg : okH g) (h1 : lgS a i = true → lr x) (h2 : lgS a i = false → ir x) : okH (up g a i x) := by
  intro a' i'
  unfold up
  by_cases h : a' = a ∧ i' = i
  · rw [if_pos h]
    obtain ⟨rfl, rfl⟩ := h
    exact ⟨h1, h2⟩
  · rw [if_neg h]
    exact hg a' i'
theorem lgS_of {a i : Nat} {n : Nat} (h : cK a = n) (h1 : n ≠ 101) (h2 : n ≠ 12) : lgS a i = false := by
  simp [lgS, h, h1, h2]
theorem cpy_ok {g : Hp} {s sp d dp n : Nat} (hg : okH g) (hs : cK s = 100) (hd : cK d = 100) : okH (cpy g s sp d dp n) := by
  intro a i
  unfold cpy
  by_cases h : a = d ∧ dp ≤ i ∧ i < dp + n
  · rw [if_pos h]
    obtain ⟨rfl, -⟩ := h
    have e1 : lgS a i = false := lgS_of hd (by decide) (by decide)
    have e2 : lgS s (sp + (i - dp)) = false := lgS_of hs (by decide) (by decide)
    exact ⟨fun h => absurd h (by rw [e1]; decide), fun _ => (hg s _).2 e2⟩
  · rw [if_neg h]
    exact hg a i
theorem up_row {g : Hp} {a i : Nat} {x : Int} (ha : a < cNum) : ∀ b, cNum ≤ b → up g a i x b = g b := by
  intro b hb
  funext j
  unfold up
  rw [if_neg]
  rintro ⟨rfl, -⟩
  omega
theorem cpy_row {g : Hp} {s sp d dp n : Nat} (hd : d < cNum) : ∀ b, cNum ≤ b → cpy g s sp d dp n b = g b := by
  intro b hb
  funext j
  unfold cpy
  rw [if_neg]
  rintro ⟨rfl, -⟩
  omega
theorem fTy_1 {ci s : Nat} (h : fTy ci s = 1) (hs : s < fNm ci) : ci = 12 ∧ s = 23 := by
  have key : ∀ ci, ci < 13 → ∀ s, s < fNm ci → fTy ci s = 1 → ci = 12 ∧ s = 23 := by decide +kernel
  by_cases hc : ci < 13
  · exact key ci hc s hs h
  · exfalso
    have : fNm ci = 0 := by simp [fNm, List.getD, List.getElem?_eq_none (show ([0, 0, 15, 0, 0, 0, 2, 0, 2, 5, 6, 10, 24] : List Nat).length ≤ ci by simp; omega)]
    omega
theorem fld_lgS {ow k nst ci sl a : Nat} (hf : fTab ow k = some (nst, ci, sl)) (hc : cK a = ci) : (fTy ci sl = 0 → lgS a sl = false) ∧ (fTy ci sl = 1 → lgS a sl = true) := by
  obtain ⟨h1, h2, -, h4, -⟩ := fTab_facts hf
  have hci : ci < 13 := by
    have := (List.getElem?_eq_some_iff.mp h1).1
    exact this
  constructor
  · intro h
    by_cases h12 : ci = 12 ∧ sl = 23
    · obtain ⟨rfl, rfl⟩ := h12
      exact absurd h (by decide)
    · simp only [lgS, hc, Bool.or_eq_false_iff, beq_eq_false_iff_ne, Bool.and_eq_false_iff]
      refine ⟨by omega, ?_⟩
      by_cases e : ci = 12
      · right
        intro e2
        exact h12 ⟨e, e2⟩
      · left
        exact e
  · intro h
    obtain ⟨rfl, rfl⟩ := fTy_1 h (by omega)
    simp [lgS, hc]
def OKs (g g' : Hp) (ls ls' st' : List SV) : Prop := okH g' ∧ (∀ v ∈ ls', okV v) ∧ (∀ v ∈ st', okV v) ∧ ls'.length = ls.length ∧ ∀ b, cNum ≤ b → g' b = g b
theorem OKs.sty {g : Hp} {ls st' : List SV} (hg : okH g) (hls : ∀ v ∈ ls, okV v) (hst : ∀ v ∈ st', okV v) : OKs g g ls ls st' := ⟨hg, hls, hst, rfl, fun _ _ => rfl⟩
theorem ok_c {v : SV} {st : List SV} (hv : okV v) (hst : ∀ v ∈ st, okV v) : ∀ x ∈ v :: st, okV x := fun x hx => (List.mem_cons.mp hx).elim (fun e => e ▸ hv) (hst x)
theorem ok_t {v : SV} {st : List SV} (hst : ∀ x ∈ v :: st, okV x) : ∀ x ∈ st, okV x := fun x hx => hst x (List.mem_cons_of_mem _ hx)
theorem ok_h {v : SV} {st : List SV} (hst : ∀ x ∈ v :: st, okV x) : okV v := hst v List.mem_cons_self
theorem ldI_ok {pc len k : Nat} {ls st ls' st' : List SV} {g g' : Hp} {pc' : Nat} (h : ldI pc len k ls st g = some (pc', ls', st', g')) (hg : okH g) (hls : ∀ v ∈ ls, okV v) (hst : ∀ v ∈ st, okV v) : OKs g g' ls ls' st' := by
  unfold ldI at h
  split at h
  · rename_i x hx
    cases h
    exact OKs.sty hg hls (ok_c (hls _ (List.mem_of_getElem? hx)) hst)
  · cases h
theorem ldL_ok {pc len k : Nat} {ls st ls' st' : List SV} {g g' : Hp} {pc' : Nat} (h : ldL pc len k ls st g = some (pc', ls', st', g')) (hg : okH g) (hls : ∀ v ∈ ls, okV v) (hst : ∀ v ∈ st, okV v) : OKs g g' ls ls' st' := by
  unfold ldL at h
  split at h
  · rename_i x hx
    cases h
    exact OKs.sty hg hls (ok_c (hls _ (List.mem_of_getElem? hx)) hst)
  · cases h
theorem ldR_ok {pc len k : Nat} {ls st ls' st' : List SV} {g g' : Hp} {pc' : Nat} (h : ldR pc len k ls st g = some (pc', ls', st', g')) (hg : okH g) (hls : ∀ v ∈ ls, okV v) (hst : ∀ v ∈ st, okV v) : OKs g g' ls ls' st' := by
  unfold ldR at h
  split at h
  · rename_i x hx
    cases h
    exact OKs.sty hg hls (ok_c (hls _ (List.mem_of_getElem? hx)) hst)
  · cases h
theorem soI_ok {pc len k : Nat} {ls st ls' st' : List SV} {g g' : Hp} {pc' : Nat} (h : soI pc len k ls st g = some (pc', ls', st', g')) (hg : okH g) (hls : ∀ v ∈ ls, okV v) (hst : ∀ v ∈ st, okV v) : OKs g g' ls ls' st' := by
  unfold soI at h
  split at h
  · split at h
    · cases h
      exact ⟨hg, set_ok (kl_ok hls) (ok_h hst), ok_t hst, by simp [st1, kl_len], fun _ _ => rfl⟩
    · cases h
  · cases h
theorem soL_ok {pc len k : Nat} {ls st ls' st' : List SV} {g g' : Hp} {pc' : Nat} (h : soL pc len k ls st g = some (pc', ls', st', g')) (hg : okH g) (hls : ∀ v ∈ ls, okV v) (hst : ∀ v ∈ st, okV v) : OKs g g' ls ls' st' := by
  unfold soL at h
  split at h
  · split at h
    · cases h
      exact ⟨hg, set_ok (set_ok (kl_ok hls) (ok_h hst)) trivial, ok_t hst, by simp [st2, kl_len], fun _ _ => rfl⟩
    · cases h
  · cases h
theorem bi_ok {f : Int → Int → Int} (hf : ∀ a b, ir (f a b)) {pc : Nat} {ls st ls' st' : List SV} {g g' : Hp} {pc' : Nat} (h : bi f pc ls st g = some (pc', ls', st', g')) (hg : okH g) (hls : ∀ v ∈ ls, okV v) (hst : ∀ v ∈ st, okV v) : OKs g g' ls ls' st' := by
  unfold bi at h
  split at h
  · cases h
    exact OKs.sty hg hls (ok_c (hf _ _) (ok_t (ok_t hst)))
  · cases h
theorem bl_ok {f : Int → Int → Int} (hf : ∀ a b, lr (f a b)) {pc : Nat} {ls st ls' st' : List SV} {g g' : Hp} {pc' : Nat} (h : bl f pc ls st g = some (pc', ls', st', g')) (hg : okH g) (hls : ∀ v ∈ ls, okV v) (hst : ∀ v ∈ st, okV v) : OKs g g' ls ls' st' := by
  unfold bl at h
  split at h
  · cases h
    exact OKs.sty hg hls (ok_c (hf _ _) (ok_t (ok_t hst)))
  · cases h
theorem bs_ok {f : Int → Int → Int} (hf : ∀ a b, lr (f a b)) {pc : Nat} {ls st ls' st' : List SV} {g g' : Hp} {pc' : Nat} (h : bs f pc ls st g = some (pc', ls', st', g')) (hg : okH g) (hls : ∀ v ∈ ls, okV v) (hst : ∀ v ∈ st, okV v) : OKs g g' ls ls' st' := by
  unfold bs at h
  split at h
  · cases h
    exact OKs.sty hg hls (ok_c (hf _ _) (ok_t (ok_t hst)))
  · cases h
theorem jmp_ok {pc : Nat} {off : Int} {ls st ls' st' : List SV} {g g' : Hp} {pc' : Nat} (h : jmp pc off ls st g = some (pc', ls', st', g')) (hg : okH g) (hls : ∀ v ∈ ls, okV v) (hst : ∀ v ∈ st, okV v) : OKs g g' ls ls' st' := by
  unfold jmp at h
  split at h
  · cases h
    exact OKs.sty hg hls hst
  · cases h
theorem txt_ir (a i : Nat) : ir ((sTxt a).getD i 0) := by
  have key : ∀ x ∈ sTxt a, ir x := by
    unfold sTxt
    split <;> decide
  by_cases h : i < (sTxt a).length
  · have e : (sTxt a).getD i 0 = (sTxt a)[i] := by simp [List.getD, List.getElem?_eq_getElem h]
    rw [e]
    exact key _ (List.getElem_mem h)
  · have : (sTxt a).getD i 0 = 0 := by simp [List.getD, List.getElem?_eq_none (show (sTxt a).length ≤ i by omega)]
    rw [this]
    decide
theorem txt_len (a : Nat) : (sTxt a).length ≤ 6 := by
  unfold sTxt
  split <;> decide
theorem cLn_lt (a : Nat) : cLn a ≤ 32000 := by
  have key : ∀ x ∈ cLl, x ≤ 32000 := by decide
  unfold cLn
  by_cases h : a < cLl.length
  · have e : cLl.getD a 0 = cLl[a] := by simp [List.getD, List.getElem?_eq_getElem h]
    rw [e]
    exact key _ (List.getElem_mem h)
  · have : cLl.getD a 0 = 0 := by simp [List.getD, List.getElem?_eq_none (show cLl.length ≤ a by omega)]
    rw [this]
    decide
theorem aLen_ir {a : Nat} {g : Hp} (hg : okH g) : ir (aLen a g : Nat) := by
  unfold aLen
  split
  · have := (hg 220 100000).2 (by decide)
    exact ⟨by omega, by have := this.2; omega⟩
  · split
    · decide
    · have := cLn_lt a
      exact ⟨by omega, by omega⟩
theorem lCmp_ir (a b : Int) : ir (lCmp a b) := by
  unfold lCmp
  split
  · decide
  · split <;> decide
set_option maxHeartbeats 4000000 in
theorem sx_ok {ow pc : Nat} {ls st ls' st' : List SV} {g g' : Hp} {pc' : Nat} {ins : ClassFile.Instr} (h : sx ow pc ls st g ins = some (pc', ls', st', g')) (hg : okH g) (hls : ∀ v ∈ ls, okV v) (hst : ∀ v ∈ st, okV v) : OKs g g' ls ls' st' := by
  cases ins with
  | iconst n =>
    simp only [sx] at h
    split at h
    · rename_i hn; cases h; exact OKs.sty hg hls (ok_c hn hst)
    · cases h
  | bipush n =>
    simp only [sx] at h
    split at h
    · rename_i hn; cases h; exact OKs.sty hg hls (ok_c (show ir n from ⟨by omega, by omega⟩) hst)
    · cases h
  | sipush n =>
    simp only [sx] at h
    split at h
    · rename_i hn; cases h; exact OKs.sty hg hls (ok_c (show ir n from ⟨by omega, by omega⟩) hst)
    · cases h
  | lconst n =>
    simp only [sx] at h
    cases h
    refine OKs.sty hg hls (ok_c (show lr ((n : Nat) : Int) from ?_) hst)
    have := n.isLt
    exact ⟨by omega, by omega⟩
  | ldc k =>
    simp only [sx] at h
    split at h
    · rename_i x hx; cases h; exact OKs.sty hg hls (ok_c (kTab_facts hx).2 hst)
    · split at h
      · cases h; exact OKs.sty hg hls (ok_c trivial hst)
      · cases h
  | ldc_w k =>
    simp only [sx] at h
    split at h
    · rename_i x hx; cases h; exact OKs.sty hg hls (ok_c (kTab_facts hx).2 hst)
    · cases h
  | ldc2_w k =>
    simp only [sx] at h
    split at h
    · rename_i x hx; cases h; exact OKs.sty hg hls (ok_c (lTab_facts hx).2 hst)
    · cases h
  | iload_n k => exact ldI_ok h hg hls hst
  | iload k => exact ldI_ok h hg hls hst
  | lload_n k => exact ldL_ok h hg hls hst
  | lload k => exact ldL_ok h hg hls hst
  | aload_n k => exact ldR_ok h hg hls hst
  | aload k => exact ldR_ok h hg hls hst
  | istore_n k => exact soI_ok h hg hls hst
  | istore k => exact soI_ok h hg hls hst
  | lstore_n k => exact soL_ok h hg hls hst
  | lstore k => exact soL_ok h hg hls hst
  | iinc k n =>
    simp only [sx] at h
    split at h
    · cases h; exact ⟨hg, set_ok hls (w32_ir _), hst, by simp, fun _ _ => rfl⟩
    · cases h
  | iadd => exact bi_ok (fun _ _ => w32_ir _) h hg hls hst
  | isub => exact bi_ok (fun _ _ => w32_ir _) h hg hls hst
  | imul => exact bi_ok (fun _ _ => w32_ir _) h hg hls hst
  | iand => exact bi_ok (fun _ _ => ir_of _) h hg hls hst
  | ior => exact bi_ok (fun _ _ => ir_of _) h hg hls hst
  | ixor => exact bi_ok (fun _ _ => ir_of _) h hg hls hst
  | ishl => exact bi_ok (fun _ _ => ir_of _) h hg hls hst
  | ishr => exact bi_ok (fun _ _ => ir_of _) h hg hls hst
  | iushr => exact bi_ok (fun _ _ => ir_of _) h hg hls hst
  | idiv =>
    simp only [sx] at h
    split at h
    · split at h
      · rename_i hc; cases h; exact OKs.sty hg hls (ok_c (div_ir (ok_h (ok_t hst)) hc.1 hc.2) (ok_t (ok_t hst)))
      · cases h
    · cases h
  | irem =>
    simp only [sx] at h
    split at h
    · split at h
      · rename_i hc; cases h; exact OKs.sty hg hls (ok_c (rem_ir (ok_h (ok_t hst)) (ok_h hst) hc.2) (ok_t (ok_t hst)))
      · cases h
    · cases h
  | ineg =>
    simp only [sx] at h
    split at h
    · cases h; exact OKs.sty hg hls (ok_c (w32_ir _) (ok_t hst))
    · cases h
  | ladd => exact bl_ok (fun _ _ => w64_lr _) h hg hls hst
  | lsub => exact bl_ok (fun _ _ => w64_lr _) h hg hls hst
  | lmul => exact bl_ok (fun _ _ => w64_lr _) h hg hls hst
  | land => exact bl_ok (fun _ _ => lr_of _) h hg hls hst
  | lor => exact bl_ok (fun _ _ => lr_of _) h hg hls hst
  | lshl => exact bs_ok (fun _ _ => lr_of _) h hg hls hst
  | lshr => exact bs_ok (fun _ _ => lr_of _) h hg hls hst
  | lushr => exact bs_ok (fun _ _ => lr_of _) h hg hls hst
  | lcmp =>
    simp only [sx] at h
    split at h
    · cases h; exact OKs.sty hg hls (ok_c (lCmp_ir _ _) (ok_t (ok_t hst)))
    · cases h
  | i2l =>
    simp only [sx] at h
    split at h
    · cases h
      refine OKs.sty hg hls (ok_c ?_ (ok_t hst))
      have : ir _ := ok_h hst
      exact ⟨by have := this.1; omega, by have := this.2; omega⟩
    · cases h
  | l2i =>
    simp only [sx] at h
    split at h
    · cases h; exact OKs.sty hg hls (ok_c (w32_ir _) (ok_t hst))
    · cases h
  | dup =>
    simp only [sx] at h
    split at h
    · split at h
      · cases h; exact OKs.sty hg hls (ok_c (ok_h hst) hst)
      · cases h
    · cases h
  | pop =>
    simp only [sx] at h
    split at h
    · split at h
      · cases h; exact OKs.sty hg hls (ok_t hst)
      · cases h
    · cases h
  | dup_x1 =>
    simp only [sx] at h
    split at h
    · split at h
      · cases h; exact OKs.sty hg hls (ok_c (ok_h hst) (ok_c (ok_h (ok_t hst)) (ok_c (ok_h hst) (ok_t (ok_t hst)))))
      · cases h
    · cases h
  | dup2 =>
    simp only [sx] at h
    split at h
    · split at h
      · cases h; exact OKs.sty hg hls (ok_c (ok_h hst) (ok_c (ok_h (ok_t hst)) hst))
      · cases h
    · cases h
  | goto off => exact jmp_ok h hg hls hst
  | ifCond c off =>
    simp only [sx, br] at h
    split at h
    · split at h
      · cases h; exact OKs.sty hg hls (ok_t hst)
      · cases h
    · cases h
  | if_icmp c off =>
    simp only [sx, br] at h
    split at h
    · split at h
      · cases h; exact OKs.sty hg hls (ok_t (ok_t hst))
      · cases h
    · cases h
  | tableswitch d lo hi offs =>
    simp only [sx] at h
    split at h
    · split at h
      · exact jmp_ok h hg hls (ok_t hst)
      · split at h
        · exact jmp_ok h hg hls (ok_t hst)
        · cases h
    · cases h
  | getfield k =>
    simp only [sx] at h
    split at h
    · split at h
      · rename_i hf
        split at h
        · rename_i hc
          have hl := fld_lgS hf hc
          split at h
          · rename_i ht; cases h; exact OKs.sty hg hls (ok_c ((hg _ _).2 (hl.1 ht)) (ok_t hst))
          · rename_i ht; cases h; exact OKs.sty hg hls (ok_c ((hg _ _).1 (hl.2 ht)) (ok_t hst))
          · cases h; exact OKs.sty hg hls (ok_c trivial (ok_t hst))
        · cases h
      · cases h
    · cases h
  | putfield k =>
    simp only [sx] at h
    split at h
    · split at h
      · rename_i hf
        split at h
        · rename_i hc
          have hl := (fld_lgS hf hc.1).1 hc.2
          cases h
          have ha := cK_lt (a := _) (show cK _ ≠ 999 from by rw [hc.1]; have := (List.getElem?_eq_some_iff.mp (fTab_facts hf).1).1; have h13 : vwCl.length = 13 := rfl; omega)
          exact ⟨up_ok hg (fun h => by rw [hl] at h; cases h) (fun _ => ok_h hst), hls, ok_t (ok_t hst), rfl, up_row ha⟩
        · cases h
      · cases h
    · split at h
      · rename_i hf
        split at h
        · rename_i hc
          have hl := (fld_lgS hf hc.1).2 hc.2
          cases h
          have ha := cK_lt (a := _) (show cK _ ≠ 999 from by rw [hc.1]; have := (List.getElem?_eq_some_iff.mp (fTab_facts hf).1).1; have h13 : vwCl.length = 13 := rfl; omega)
          exact ⟨up_ok hg (fun _ => ok_h hst) (fun h => by rw [hl] at h; cases h), hls, ok_t (ok_t hst), rfl, up_row ha⟩
        · cases h
      · cases h
    · cases h
  | getstatic k =>
    simp only [sx] at h
    split at h
    · cases h; exact OKs.sty hg hls (ok_c trivial hst)
    · cases h
  | arraylength =>
    simp only [sx] at h
    split at h
    · split at h
      · cases h; exact OKs.sty hg hls (ok_c (aLen_ir hg) (ok_t hst))
      · cases h
    · cases h
  | iaload =>
    simp only [sx] at h
    split at h
    · split at h
      · rename_i a r hc
        cases h
        refine OKs.sty hg hls (ok_c ((hg _ _).2 ?_) (ok_t (ok_t hst)))
        have h1 := hc.1
        simp only [isIA, Bool.or_eq_true, beq_iff_eq] at h1
        rcases h1 with h1 | h1 | h1
        · exact lgS_of h1 (by decide) (by decide)
        · subst h1; rfl
        · subst h1; rfl
      · cases h
    · cases h
  | iastore =>
    simp only [sx] at h
    split at h
    · split at h
      · rename_i hc
        cases h
        exact ⟨up_ok hg (fun h => by rw [lgS_of hc.1 (by decide) (by decide)] at h; cases h) (fun _ => ok_h hst), hls, ok_t (ok_t (ok_t hst)), rfl, up_row (cK_lt (by rw [hc.1]; decide))⟩
      · cases h
    · cases h
  | laload =>
    simp only [sx] at h
    split at h
    · split at h
      · rename_i hc
        cases h
        exact OKs.sty hg hls (ok_c ((hg _ _).1 (by simp [lgS, hc.1])) (ok_t (ok_t hst)))
      · cases h
    · cases h
  | lastore =>
    simp only [sx] at h
    split at h
    · split at h
      · rename_i hc
        cases h
        exact ⟨up_ok hg (fun _ => ok_h hst) (fun h => by simp [lgS, hc.1] at h), hls, ok_t (ok_t (ok_t hst)), rfl, up_row (cK_lt (by rw [hc.1]; decide))⟩
      · cases h
    · cases h
  | baload =>
    simp only [sx] at h
    split at h
    · split at h
      · rename_i hc
        cases h
        exact OKs.sty hg hls (ok_c ((hg _ _).2 (lgS_of hc.1 (by decide) (by decide))) (ok_t (ok_t hst)))
      · cases h
    · cases h
  | bastore =>
    simp only [sx] at h
    split at h
    · split at h
      · rename_i hc
        cases h
        exact ⟨up_ok hg (fun h => by rw [lgS_of hc.1 (by decide) (by decide)] at h; cases h) (fun _ => ok_h hst), hls, ok_t (ok_t (ok_t hst)), rfl, up_row (cK_lt (by rw [hc.1]; decide))⟩
      · cases h
    · cases h
  | aaload =>
    simp only [sx] at h
    split at h
    · split at h
      · cases h; exact OKs.sty hg hls (ok_c trivial (ok_t (ok_t hst)))
      · cases h
    · cases h
  | invokestatic k =>
    simp only [sx] at h
    split at h
    · split at h
      · split at h
        · rename_i hc
          cases h
          exact ⟨cpy_ok hg hc.1.1 hc.1.2, hls, ok_t (ok_t (ok_t (ok_t (ok_t hst)))), rfl, cpy_row (cK_lt (by rw [hc.1.2]; decide))⟩
        · cases h
      · cases h
    · cases h
  | invokevirtual k =>
    simp only [sx] at h
    split at h
    · split at h
      · split at h
        · rename_i a r hc
          cases h
          have := txt_len a
          exact OKs.sty hg hls (ok_c (show ir (((sTxt a).length : Nat) : Int) from ⟨by omega, by omega⟩) (ok_t hst))
        · cases h
      · cases h
    · split at h
      · split at h
        · cases h
          exact OKs.sty hg hls (ok_c (txt_ir _ _) (ok_t (ok_t hst)))
        · cases h
      · cases h
    · cases h
  | _ => simp [sx] at h
end
section
/-! THE SHADOW IS SOUND: one instruction, over the machine -/
def FrC (p : Program) (R : Room) (s : State) (m : MethodId) (args : Array Value) (c : Code) (q : MI) (d cells slots : Nat) : Prop :=
  p.tables.exec = Jvm.exec ∧ c.code = q.2.2.2.1 ∧ c.maxLocals = q.2.1 ∧ s.vm.findClass (oNm q.1) = some m.cls ∧ (∀ w ∈ lw_good, w.before args s = true) ∧ (8 ≤ d ∧ d ≤ R.frames) ∧ 40 * d ≤ R.locals ∧ cells ≤ R.cells ∧ slots ≤ R.slots
def ShK (cA : Nat → ClassId) (dC : Nat → ClassId) (dI : Nat → Nat → Nat) (U : State) : Prop :=
  va_K (dC, dI) vwCl [] U ∧ (∀ k, k < cNum → 100 ≤ cK k → ArrOfT U (cA k) (aTy (cK k)) ∧ va_RA U (cA k) (aTy (cK k))) ∧ ∀ w ∈ nestW, va_Nw w U
def ShF (ad : Nat → Nat) (n0 x0 : Nat → Int) (Sx : State → Prop) (U : State) : Prop :=
  va_Z RX8 "NUMBERS" "[I" (.ref (ad 210)) (ShA ad) U U.heap ∧ va_T .int (ad 210) 5 (fun i => .int (Int32.ofInt (n0 i))) (ShA ad) U U.heap ∧ va_X (ad 220) (x0 100000).toNat (fun i => Int32.ofInt (x0 i)) U U.heap ∧ ad 220 < U.heap.size ∧ ¬ ShA ad (ad 220) ∧ (∀ q ∈ gTb, vk_R (oNm q.1) q.2.1 (sNm q.2.2) (ad q.2.2) U) ∧ Sx U
/-- the rows of String.length and String.charAt, of the constants -/
def StrLen (ad : Nat → Nat) (Sx : State → Prop) : Prop := ∀ (p : Program) (l : Launch) (e : Env) (R : Room) (s : State) (m : MethodId) (args : Array Value) (below : List Frame) (meth : Method) (c : Code) (H : Heap) (locs : List Loc) (cells slots : Nat) (Q : State → Prop) (cc : ByteArray) (nL pc : Nat) (ra : Array Slot) (rest : List Value) (ow k n a : Nat),
  p.tables.exec = Jvm.exec → c.code = cc → c.maxLocals = nL → s.vm.findClass (oNm ow) = some m.cls → (∀ w ∈ lw_good, w.before args s = true) → 8 ≤ R.frames → 320 ≤ R.locals → cells ≤ R.cells → slots ≤ R.slots → Sx s → va_S (ShA ad) s.heap H locs → ra.size = nL → cTab ow k = some (7, n) → 200 ≤ a → a < 205 → (rest.map fun v => v.category).sum ≤ 8 → decode cc pc = .ok (.invokevirtual k, 3) →
  W p l e R s m args below meth c H locs cells slots Q (F0 m (pc + 3) ra (.int (Int32.ofInt ((sTxt a).length : Nat)) :: rest)) → W p l e R s m args below meth c H locs cells slots Q (F0 m pc ra (.ref (ad a) :: rest))
def StrAt (ad : Nat → Nat) (Sx : State → Prop) : Prop := ∀ (p : Program) (l : Launch) (e : Env) (R : Room) (s : State) (m : MethodId) (args : Array Value) (below : List Frame) (meth : Method) (c : Code) (H : Heap) (locs : List Loc) (cells slots : Nat) (Q : State → Prop) (cc : ByteArray) (nL pc : Nat) (ra : Array Slot) (rest : List Value) (ow k n a : Nat) (i : Int),
  p.tables.exec = Jvm.exec → c.code = cc → c.maxLocals = nL → s.vm.findClass (oNm ow) = some m.cls → (∀ w ∈ lw_good, w.before args s = true) → 8 ≤ R.frames → 320 ≤ R.locals → cells ≤ R.cells → slots ≤ R.slots → Sx s → va_S (ShA ad) s.heap H locs → ra.size = nL → cTab ow k = some (8, n) → 200 ≤ a → a < 205 → 0 ≤ i → i < (sTxt a).length → (rest.map fun v => v.category).sum ≤ 8 → decode cc pc = .ok (.invokevirtual k, 3) →
  W p l e R s m args below meth c H locs cells slots Q (F0 m (pc + 3) ra (.int (Int32.ofInt ((sTxt a).getD i.toNat 0)) :: rest)) → W p l e R s m args below meth c H locs cells slots Q (F0 m pc ra (.int (Int32.ofInt i) :: .ref (ad a) :: rest))
theorem shK_arr {cA dC : Nat → ClassId} {dI : Nat → Nat → Nat} {s : State} (hK : ShK cA dC dI s) {k : Nat} {ty : FieldType} (hk : k < cNum) (h1 : 100 ≤ cK k) (ht : aTy (cK k) = ty) : va_K (dC, dI) vwCl [(cA k, ty)] s := by
  refine ⟨hK.1.1, fun j q hj => ?_⟩
  cases j with
  | zero =>
    simp only [List.getElem?_cons_zero, Option.some.injEq] at hj
    subst hj
    rw [← ht]
    exact hK.2.1 k hk h1
  | succ j => simp at hj
theorem ent_i {ad : Nat → Nat} {cA : Nat → ClassId} {g : Hp} {k : Nat} (h : cK k = 100 ∨ cK k = 102) : ent ad cA g k = .inl (cA k, cLn k, .inl (fun i => Int32.ofInt (g k i))) := by
  rcases h with h | h <;> simp [ent, arrE, h]
theorem ent_l {ad : Nat → Nat} {cA : Nat → ClassId} {g : Hp} {k : Nat} (h : cK k = 101) : ent ad cA g k = .inl (cA k, cLn k, .inr (.inl (fun i => Int64.ofInt (g k i)))) := by
  simp [ent, arrE, h]
theorem ent_q {ad : Nat → Nat} {cA : Nat → ClassId} {g : Hp} {k : Nat} (h : cK k = 103 ∨ cK k = 104) : ent ad cA g k = .inl (cA k, cLn k, .inr (.inr (.inr (.inr (fun i => some (ad (cRef k i))))))) := by
  rcases h with h | h <;> simp [ent, arrE, h]
theorem ent_o {ad : Nat → Nat} {cA : Nat → ClassId} {g : Hp} {k ci : Nat} (h : cK k = ci) (hc : ci < 13) : ent ad cA g k = .inr (ci, (List.range (fNm ci)).map (fun i => fV ad g ci k i)) := by
  subst h
  simp [ent, show cK k < 100 by omega]
theorem ent_put {ad : Nat → Nat} {cA : Nat → ClassId} {g : Hp} {a ci s : Nat} {x : Int} {v : Value} (h : cK a = ci) (hc : ci < 13) (hv : fV ad (up g a s x) ci a s = v) : ent ad cA (up g a s x) a = .inr (ci, ((List.range (fNm ci)).map (fun i => fV ad g ci a i)).set s v) := by
  rw [ent_o h hc]
  congr 2
  apply List.ext_getElem?
  intro j
  by_cases hj : j = s
  · subst hj
    by_cases hl : j < fNm ci
    · rw [List.getElem?_set_self (by simpa using hl)]
      simp [hl, hv]
    · rw [List.getElem?_eq_none (by simp; omega), List.getElem?_eq_none (by simp; omega)]
  · rw [List.getElem?_set_ne (fun e => hj e.symm)]
    by_cases hl : j < fNm ci
    · simp [hl, fV, up, hj]
    · rw [List.getElem?_eq_none (by simp; omega), List.getElem?_eq_none (by simp; omega)]
theorem upd_32 {g : Hp} {a : Nat} {i x : Int} (h : ir i) : (fun j => Int32.ofInt (up g a i.toNat x a j)) = upd (fun j => Int32.ofInt (g a j)) (Int32.ofInt i).toNatClampNeg (Int32.ofInt x) := by
  rw [i32_cl h]
  funext j
  by_cases hj : j = i.toNat
  · subst hj; simp [up, upd]
  · simp [up, upd, hj]
theorem upd_64 {g : Hp} {a : Nat} {i x : Int} (h : ir i) : (fun j => Int64.ofInt (up g a i.toNat x a j)) = vp_updL (fun j => Int64.ofInt (g a j)) (Int32.ofInt i).toNatClampNeg (Int64.ofInt x) := by
  rw [i32_cl h]
  funext j
  by_cases hj : j = i.toNat
  · subst hj; simp [up, vp_updL]
  · simp [up, vp_updL, hj]
section SX
variable {p : Program} {l : Launch} {e : Env} {R : Room} {s : State} {m : MethodId} {args : Array Value} {below : List Frame} {meth : Method} {c : Code} {H : Heap} {locs : List Loc} {cells slots : Nat} {Q : State → Prop}
variable {ad : Nat → Nat} {cA dC : Nat → ClassId} {dI : Nat → Nat → Nat} {n0 x0 : Nat → Int} {Sx : State → Prop} {q : MI} {d pc : Nat} {ls st ls' st' : List SV} {g g' : Hp} {pc' : Nat} {ra : Array Slot} {ins : ClassFile.Instr} {len : Nat}
/-- how it goes on behind an instruction -/
def Kon (p : Program) (l : Launch) (e : Env) (R : Room) (s : State) (m : MethodId) (args : Array Value) (below : List Frame) (meth : Method) (c : Code) (cells slots : Nat) (Q : State → Prop) (ad : Nat → Nat) (cA dC : Nat → ClassId) (dI : Nat → Nat → Nat) (nL pc' : Nat) (ls' st' : List SV) (g' : Hp) : Prop :=
  ∀ (H' : Heap) (locs' : List Loc) (ra' : Array Slot), va_P (dC, dI) vwCl (wl ad cA g') H' → va_S (ShA ad) s.heap H' locs' → lv_has ra' nL (lvl ad ls') → W p l e R s m args below meth c H' locs' cells slots Q (F0 m pc' ra' (st'.map (rv ad)))
theorem k_ldI (hx : p.tables.exec = Jvm.exec) (hb : c.code = q.2.2.2.1) (hP : va_P (dC, dI) vwCl (wl ad cA g) H) (hS : va_S (ShA ad) s.heap H locs) (hl : lv_has ra q.2.1 (lvl ad ls)) {k : Nat}
    (row : ∀ x, ra[k]? = some (.val (.int x)) → W p l e R s m args below meth c H locs cells slots Q (F0 m (pc + len) ra (.int x :: st.map (rv ad))) → W p l e R s m args below meth c H locs cells slots Q (F0 m pc ra (st.map (rv ad))))
    (h : ldI pc len k ls st g = some (pc', ls', st', g')) (K : Kon p l e R s m args below meth c cells slots Q ad cA dC dI q.2.1 pc' ls' st' g') : W p l e R s m args below meth c H locs cells slots Q (F0 m pc ra (st.map (rv ad))) := by
  unfold ldI at h
  split at h
  · rename_i x hxk
    cases h
    exact row _ (lvl_at hl hxk rfl) (K H locs ra hP hS hl)
  · cases h
theorem k_ldL (hx : p.tables.exec = Jvm.exec) (hb : c.code = q.2.2.2.1) (hP : va_P (dC, dI) vwCl (wl ad cA g) H) (hS : va_S (ShA ad) s.heap H locs) (hl : lv_has ra q.2.1 (lvl ad ls)) {k : Nat}
    (row : ∀ x, ra[k]? = some (.val (.long x)) → W p l e R s m args below meth c H locs cells slots Q (F0 m (pc + len) ra (.long x :: st.map (rv ad))) → W p l e R s m args below meth c H locs cells slots Q (F0 m pc ra (st.map (rv ad))))
    (h : ldL pc len k ls st g = some (pc', ls', st', g')) (K : Kon p l e R s m args below meth c cells slots Q ad cA dC dI q.2.1 pc' ls' st' g') : W p l e R s m args below meth c H locs cells slots Q (F0 m pc ra (st.map (rv ad))) := by
  unfold ldL at h
  split at h
  · rename_i x hxk
    cases h
    exact row _ (lvl_at hl hxk rfl) (K H locs ra hP hS hl)
  · cases h
theorem k_ldR (hx : p.tables.exec = Jvm.exec) (hb : c.code = q.2.2.2.1) (hP : va_P (dC, dI) vwCl (wl ad cA g) H) (hS : va_S (ShA ad) s.heap H locs) (hl : lv_has ra q.2.1 (lvl ad ls)) {k : Nat}
    (row : ∀ x, ra[k]? = some (.val (.ref x)) → W p l e R s m args below meth c H locs cells slots Q (F0 m (pc + len) ra (.ref x :: st.map (rv ad))) → W p l e R s m args below meth c H locs cells slots Q (F0 m pc ra (st.map (rv ad))))
    (h : ldR pc len k ls st g = some (pc', ls', st', g')) (K : Kon p l e R s m args below meth c cells slots Q ad cA dC dI q.2.1 pc' ls' st' g') : W p l e R s m args below meth c H locs cells slots Q (F0 m pc ra (st.map (rv ad))) := by
  unfold ldR at h
  split at h
  · rename_i x hxk
    cases h
    exact row _ (lvl_at hl hxk rfl) (K H locs ra hP hS hl)
  · cases h
theorem k_soI (hP : va_P (dC, dI) vwCl (wl ad cA g) H) (hS : va_S (ShA ad) s.heap H locs) (hl : lv_has ra q.2.1 (lvl ad ls)) (hll : ls.length = q.2.1) {k : Nat}
    (row : ∀ (x : Int32) (rest : List Value), k < q.2.1 → (∀ ra', lv_has ra' q.2.1 ((k, Value.int x) :: (lvl ad ls).filter (fun q => !(q.1 == k) && !(q.1 + 1 == k && q.2.category == 2))) → W p l e R s m args below meth c H locs cells slots Q (F0 m (pc + len) ra' rest)) → W p l e R s m args below meth c H locs cells slots Q (F0 m pc ra (.int x :: rest)))
    (h : soI pc len k ls st g = some (pc', ls', st', g')) (K : Kon p l e R s m args below meth c cells slots Q ad cA dC dI q.2.1 pc' ls' st' g') : W p l e R s m args below meth c H locs cells slots Q (F0 m pc ra (st.map (rv ad))) := by
  unfold soI at h
  split at h
  · split at h
    · rename_i x r hk
      cases h
      exact row _ _ (by omega) (fun ra' hl' => K H locs ra' hP hS (lv_less hl' (st1_sub (v := .inl x) rfl)))
    · cases h
  · cases h
theorem k_soL (hP : va_P (dC, dI) vwCl (wl ad cA g) H) (hS : va_S (ShA ad) s.heap H locs) (hl : lv_has ra q.2.1 (lvl ad ls)) (hll : ls.length = q.2.1) {k : Nat}
    (row : ∀ (x : Int64) (rest : List Value), k + 1 < q.2.1 → (∀ ra', lv_has ra' q.2.1 ((k, Value.long x) :: (lvl ad ls).filter (fun q => !(q.1 == k) && (!(q.1 == k + 1) && !(q.1 + 1 == k && q.2.category == 2)))) → W p l e R s m args below meth c H locs cells slots Q (F0 m (pc + len) ra' rest)) → W p l e R s m args below meth c H locs cells slots Q (F0 m pc ra (.long x :: rest)))
    (h : soL pc len k ls st g = some (pc', ls', st', g')) (K : Kon p l e R s m args below meth c cells slots Q ad cA dC dI q.2.1 pc' ls' st' g') : W p l e R s m args below meth c H locs cells slots Q (F0 m pc ra (st.map (rv ad))) := by
  unfold soL at h
  split at h
  · split at h
    · rename_i x r hk
      cases h
      exact row _ _ (by omega) (fun ra' hl' => K H locs ra' hP hS (lv_less hl' (st2_sub (v := .inr (.inl x)))))
    · cases h
  · cases h
theorem k_bi {f : Int → Int → Int} {F : Int32 → Int32 → Int32} (hf : ∀ a b, F (Int32.ofInt a) (Int32.ofInt b) = Int32.ofInt (f a b)) (hP : va_P (dC, dI) vwCl (wl ad cA g) H) (hS : va_S (ShA ad) s.heap H locs) (hl : lv_has ra q.2.1 (lvl ad ls))
    (row : ∀ (x y : Int32) (rest : List Value), W p l e R s m args below meth c H locs cells slots Q (F0 m (pc + 1) ra (.int (F x y) :: rest)) → W p l e R s m args below meth c H locs cells slots Q (F0 m pc ra (.int y :: .int x :: rest)))
    (h : bi f pc ls st g = some (pc', ls', st', g')) (K : Kon p l e R s m args below meth c cells slots Q ad cA dC dI q.2.1 pc' ls' st' g') : W p l e R s m args below meth c H locs cells slots Q (F0 m pc ra (st.map (rv ad))) := by
  unfold bi at h
  split at h
  · rename_i b a r
    cases h
    refine row (Int32.ofInt a) (Int32.ofInt b) (r.map (rv ad)) ?_
    rw [hf]
    exact K H locs ra hP hS hl
  · cases h
theorem k_bl {f : Int → Int → Int} {F : Int64 → Int64 → Int64} (hf : ∀ a b, F (Int64.ofInt a) (Int64.ofInt b) = Int64.ofInt (f a b)) (hP : va_P (dC, dI) vwCl (wl ad cA g) H) (hS : va_S (ShA ad) s.heap H locs) (hl : lv_has ra q.2.1 (lvl ad ls))
    (row : ∀ (x y : Int64) (rest : List Value), W p l e R s m args below meth c H locs cells slots Q (F0 m (pc + 1) ra (.long (F x y) :: rest)) → W p l e R s m args below meth c H locs cells slots Q (F0 m pc ra (.long y :: .long x :: rest)))
    (h : bl f pc ls st g = some (pc', ls', st', g')) (K : Kon p l e R s m args below meth c cells slots Q ad cA dC dI q.2.1 pc' ls' st' g') : W p l e R s m args below meth c H locs cells slots Q (F0 m pc ra (st.map (rv ad))) := by
  unfold bl at h
  split at h
  · rename_i b a r
    cases h
    refine row (Int64.ofInt a) (Int64.ofInt b) (r.map (rv ad)) ?_
    rw [hf]
    exact K H locs ra hP hS hl
  · cases h
theorem k_bs {f : Int → Int → Int} {F : Int64 → Int32 → Int64} (hf : ∀ a b, F (Int64.ofInt a) (Int32.ofInt b) = Int64.ofInt (f a b)) (hP : va_P (dC, dI) vwCl (wl ad cA g) H) (hS : va_S (ShA ad) s.heap H locs) (hl : lv_has ra q.2.1 (lvl ad ls))
    (row : ∀ (x : Int64) (y : Int32) (rest : List Value), W p l e R s m args below meth c H locs cells slots Q (F0 m (pc + 1) ra (.long (F x y) :: rest)) → W p l e R s m args below meth c H locs cells slots Q (F0 m pc ra (.int y :: .long x :: rest)))
    (h : bs f pc ls st g = some (pc', ls', st', g')) (K : Kon p l e R s m args below meth c cells slots Q ad cA dC dI q.2.1 pc' ls' st' g') : W p l e R s m args below meth c H locs cells slots Q (F0 m pc ra (st.map (rv ad))) := by
  unfold bs at h
  split at h
  · rename_i b a r
    cases h
    refine row (Int64.ofInt a) (Int32.ofInt b) (r.map (rv ad)) ?_
    rw [hf]
    exact K H locs ra hP hS hl
  · cases h
theorem k_jmp {off : Int} (hP : va_P (dC, dI) vwCl (wl ad cA g) H) (hS : va_S (ShA ad) s.heap H locs) (hl : lv_has ra q.2.1 (lvl ad ls)) (h : jmp pc off ls st g = some (pc', ls', st', g')) (K : Kon p l e R s m args below meth c cells slots Q ad cA dC dI q.2.1 pc' ls' st' g') : (pc : Int) + off = (pc' : Int) ∧ W p l e R s m args below meth c H locs cells slots Q (F0 m pc' ra (st.map (rv ad))) := by
  unfold jmp at h
  split at h
  · cases h
    exact ⟨by omega, K H locs ra hP hS hl⟩
  · cases h
end SX
end
section
section SY
variable {p : Program} {l : Launch} {e : Env} {R : Room} {s : State} {m : MethodId} {args : Array Value} {below : List Frame} {meth : Method} {c : Code} {H : Heap} {locs : List Loc} {cells slots : Nat} {Q : State → Prop}
variable {ad : Nat → Nat} {cA dC : Nat → ClassId} {dI : Nat → Nat → Nat} {n0 x0 : Nat → Int} {Sx : State → Prop} {q : MI} {d pc : Nat} {ls st ls' st' : List SV} {g g' : Hp} {pc' : Nat} {ra : Array Slot} {ins : ClassFile.Instr} {len : Nat}
theorem i8_c {n : Int} (h : -128 ≤ n ∧ n < 128) : (Int8.ofInt n).toInt32 = Int32.ofInt n := by
  rw [← Int32.toInt_inj, i32_ti ⟨by omega, by omega⟩, Int8.toInt_toInt32, Int8.toInt_ofInt_of_le (by omega) (by omega)]
theorem i16_c {n : Int} (h : -32768 ≤ n ∧ n < 32768) : (Int16.ofInt n).toInt32 = Int32.ofInt n := by
  rw [← Int32.toInt_inj, i32_ti ⟨by omega, by omega⟩, Int16.toInt_toInt32, Int16.toInt_ofInt_of_le (by omega) (by omega)]
theorem i2l_c {x : Int} (h : ir x) : (Int32.ofInt x).toInt64 = Int64.ofInt x := by
  rw [← Int64.toInt_inj, Int32.toInt_toInt64, i32_ti h, i64_ti ⟨by have := h.1; omega, by have := h.2; omega⟩]
theorem l2i_c {x : Int} (h : lr x) : (Int64.ofInt x).toInt32 = Int32.ofInt (w32 x) := by
  rw [w32, o32]
  exact Int64.toInt32_ofInt
theorem lcmp_c {a b : Int} (ha : lr a) (hb : lr b) : lg_cmp (Int64.ofInt a) (Int64.ofInt b) = Int32.ofInt (lCmp a b) := by
  unfold lg_cmp lCmp
  by_cases h1 : b < a
  · rw [if_pos h1, if_pos ((i64_lt hb ha).mpr h1)]; decide
  · rw [if_neg h1, if_neg (fun h => h1 ((i64_lt hb ha).mp h))]
    by_cases h2 : a = b
    · rw [if_pos h2, if_pos ((i64_eq ha hb).mpr h2)]; decide
    · rw [if_neg h2, if_neg (fun h => h2 ((i64_eq ha hb).mp h))]; decide
theorem bnot {b : Bool} (h : ¬ b = true) : b = false := by cases b <;> simp_all
theorem rv_cat {v : SV} (h : cat v = 1) : (rv ad v).category = 1 := by
  rcases v with x | x | x | x
  · rfl
  · simp [cat] at h
  · rfl
  · rfl
theorem rv_sum (r : List SV) : ((r.map (rv ad)).map fun v => v.category).sum = (r.map cat).sum := by
  induction r with
  | nil => rfl
  | cons v r ih =>
    simp only [List.map_cons, List.sum_cons, ih]
    congr 1
    rcases v with x | x | x | x <;> rfl
theorem gTab_mem {ow k a : Nat} (h : gTab ow k = some a) : (ow, k, a) ∈ gTb := by
  unfold gTab at h
  cases hf : gTb.find? (fun q => q.1 == ow && q.2.1 == k) with
  | none => rw [hf] at h; cases h
  | some z =>
    rw [hf] at h
    obtain ⟨x, y, w⟩ := z
    have hp := List.find?_some hf
    simp only [Option.map_some, Option.some.injEq] at h
    subst h
    simp only [Bool.and_eq_true, beq_iff_eq] at hp
    obtain ⟨rfl, rfl⟩ := hp
    exact List.mem_of_find?_eq_some hf
theorem iinc_less {k : Nat} {x y : Int} (hl : lv_has ra q.2.1 (lvl ad ls)) (hk : ls[k]? = some (.inl x)) : ∀ z ∈ lvl ad (ls.set k (.inl y)), z ∈ (k, Value.int (Int32.ofInt y)) :: (lvl ad ls).filter (fun q => !(q.1 == k) && !(q.1 + 1 == k && q.2.category == 2)) := by
  rintro ⟨j, w⟩ hq
  obtain ⟨u, h1, h2, rfl⟩ := lvl_mem.mp hq
  by_cases hjk : j = k
  · subst hjk
    rw [List.getElem?_set_self (List.getElem?_eq_some_iff.mp hk).1] at h1
    cases h1
    exact List.mem_cons_self
  · rw [List.getElem?_set_ne (fun e => hjk e.symm)] at h1
    refine List.mem_cons_of_mem _ (List.mem_filter.mpr ⟨lvl_mem.mpr ⟨u, h1, h2, rfl⟩, ?_⟩)
    simp only [Bool.and_eq_true, Bool.not_eq_true', beq_eq_false_iff_ne, ne_eq, Bool.and_eq_false_iff]
    refine ⟨hjk, ?_⟩
    by_cases e1 : j + 1 = k
    · right
      intro e2
      have hw := hl.2.1.1 j _ (lvl_at hl h1 h2) e2
      have hw2 := lvl_at hl hk rfl
      rw [e1, hw2] at hw
      cases hw
    · exact Or.inl e1
set_option maxHeartbeats 8000000 in
theorem snd_sx (hinj : ∀ i j, i < cNum → j < cNum → ad i = ad j → i = j) (hSL : StrLen ad Sx) (hSA : StrAt ad Sx) (hF : FrC p R s m args c q d cells slots) (hK : ShK cA dC dI s) (hZ : ShF ad n0 x0 Sx s) (hP : va_P (dC, dI) vwCl (wl ad cA g) H) (hg : okH g) (h210 : g 210 = n0) (h220 : g 220 = x0) (hS : va_S (ShA ad) s.heap H locs) (hl : lv_has ra q.2.1 (lvl ad ls)) (hll : ls.length = q.2.1) (hls : ∀ v ∈ ls, okV v) (hst : ∀ v ∈ st, okV v)
    (hd : decode q.2.2.2.1 pc = .ok (ins, len)) (hln : lnOk ins len = true) (h : sx q.1 pc ls st g ins = some (pc', ls', st', g')) (K : Kon p l e R s m args below meth c cells slots Q ad cA dC dI q.2.1 pc' ls' st' g') : W p l e R s m args below meth c H locs cells slots Q (F0 m pc ra (st.map (rv ad))) := by
  obtain ⟨hx, hb, hml, hown, hts, hfr, hlo, hce, hsl⟩ := hF
  have hD := wl_D cA g hinj
  cases ins with
  | iconst n =>
    have e1 : len = 1 := eq_of_beq (show (len == 1) = true from hln)
    subst e1
    simp only [sx] at h
    split at h
    · cases h; exact lv_iconst hx hb hd rfl (K H locs ra hP hS hl)
    · cases h
  | bipush n =>
    have e1 : len = 2 := eq_of_beq (show (len == 2) = true from hln)
    subst e1
    simp only [sx] at h
    split at h
    · rename_i hn; cases h; exact lv_bipush hx hb hd (i8_c hn) (K H locs ra hP hS hl)
    · cases h
  | sipush n =>
    have e1 : len = 3 := eq_of_beq (show (len == 3) = true from hln)
    subst e1
    simp only [sx] at h
    split at h
    · rename_i hn; cases h; exact lv_sipush hx hb hd (i16_c hn) (K H locs ra hP hS hl)
    · cases h
  | lconst n =>
    have e1 : len = 1 := eq_of_beq (show (len == 1) = true from hln)
    subst e1
    simp only [sx] at h
    cases h
    exact lv_lconst hx hb hd (v := Int64.ofInt ((n : Nat) : Int)) (by rw [Int64.ofInt_eq_ofNat]) (K H locs ra hP hS hl)
  | ldc k =>
    have e1 : len = 2 := eq_of_beq (show (len == 2) = true from hln)
    subst e1
    simp only [sx] at h
    split at h
    · rename_i x hk
      cases h
      have hw := hts _ (kTab_facts hk).1
      exact lv_ldc hx hb hown hw hd (K H locs ra hP hS hl)
    · split at h
      · rename_i a ha
        cases h
        have hw := hZ.2.2.2.2.2.1 _ (gTab_mem ha)
        exact va_ldcS hx hb hown hw hd (K H locs ra hP hS hl)
      · cases h
  | ldc_w k =>
    have e1 : len = 3 := eq_of_beq (show (len == 3) = true from hln)
    subst e1
    simp only [sx] at h
    split at h
    · rename_i x hk
      cases h
      have hw := hts _ (kTab_facts hk).1
      exact lv_ldcw hx hb hown hw hd (K H locs ra hP hS hl)
    · cases h
  | ldc2_w k =>
    have e1 : len = 3 := eq_of_beq (show (len == 3) = true from hln)
    subst e1
    simp only [sx] at h
    split at h
    · rename_i x hk
      cases h
      have hw := hts _ (lTab_facts hk).1
      exact lv_ldc2 hx hb hown hw hd (K H locs ra hP hS hl)
    · cases h
  | iload_n k =>
    have e1 : len = 1 := eq_of_beq (show (len == 1) = true from hln)
    subst e1
    exact k_ldI hx hb hP hS hl (fun x hx' kk => lv_iload_n hx hb hd rfl hx' kk) h K
  | iload k =>
    have e1 : len = 2 := eq_of_beq (show (len == 2) = true from hln)
    subst e1
    exact k_ldI hx hb hP hS hl (fun x hx' kk => lv_iload hx hb hd hx' kk) h K
  | lload_n k =>
    have e1 : len = 1 := eq_of_beq (show (len == 1) = true from hln)
    subst e1
    exact k_ldL hx hb hP hS hl (fun x hx' kk => lv_lload_n hx hb hd rfl hx' kk) h K
  | lload k =>
    have e1 : len = 2 := eq_of_beq (show (len == 2) = true from hln)
    subst e1
    exact k_ldL hx hb hP hS hl (fun x hx' kk => lv_lload hx hb hd hx' kk) h K
  | aload_n k =>
    have e1 : len = 1 := eq_of_beq (show (len == 1) = true from hln)
    subst e1
    exact k_ldR hx hb hP hS hl (fun x hx' kk => lv_aload_n hx hb hd rfl hx' kk) h K
  | aload k =>
    have e1 : len = 2 := eq_of_beq (show (len == 2) = true from hln)
    subst e1
    exact k_ldR hx hb hP hS hl (fun x hx' kk => lv_aload hx hb hd hx' kk) h K
  | istore_n k =>
    have e1 : len = 1 := eq_of_beq (show (len == 1) = true from hln)
    subst e1
    exact k_soI hP hS hl hll (fun x rest hn kk => lv_istore_n hx hb hd rfl hl hn rfl kk) h K
  | istore k =>
    have e1 : len = 2 := eq_of_beq (show (len == 2) = true from hln)
    subst e1
    exact k_soI hP hS hl hll (fun x rest hn kk => lv_istore hx hb hd hl hn rfl kk) h K
  | lstore_n k =>
    have e1 : len = 1 := eq_of_beq (show (len == 1) = true from hln)
    subst e1
    exact k_soL hP hS hl hll (fun x rest hn kk => lv_lstore_n hx hb hd rfl hl hn rfl kk) h K
  | lstore k =>
    have e1 : len = 2 := eq_of_beq (show (len == 2) = true from hln)
    subst e1
    exact k_soL hP hS hl hll (fun x rest hn kk => lv_lstore hx hb hd hl hn rfl kk) h K
  | iinc k n =>
    have e1 : len = 3 := eq_of_beq (show (len == 3) = true from hln)
    subst e1
    simp only [sx] at h
    split at h
    · rename_i x hk
      cases h
      have hm : (k, Value.int (Int32.ofInt x)) ∈ lvl ad ls := lvl_mem.mpr ⟨_, hk, rfl, rfl⟩
      obtain ⟨j, hj⟩ := List.getElem?_of_mem hm
      exact lv_iinc hx hb hd hl hj (v := Int32.ofInt (w32 (x + n))) (by rw [i32_add]) (by have := (List.getElem?_eq_some_iff.mp hk).1; omega) rfl (fun ra' hl' => K H locs ra' hP hS (lv_less hl' (iinc_less hl hk)))
    · cases h
  | iadd =>
    have e1 : len = 1 := eq_of_beq (show (len == 1) = true from hln)
    subst e1
    exact k_bi (f := fun a b => w32 (a + b)) (F := fun x y => x + y) (fun a b => i32_add a b) hP hS hl (fun x y rest kk => lv_iadd hx hb hd kk) h K
  | isub =>
    have e1 : len = 1 := eq_of_beq (show (len == 1) = true from hln)
    subst e1
    exact k_bi (f := fun a b => w32 (a - b)) (F := fun x y => x - y) (fun a b => i32_sub a b) hP hS hl (fun x y rest kk => lv_isub hx hb hd kk) h K
  | imul =>
    have e1 : len = 1 := eq_of_beq (show (len == 1) = true from hln)
    subst e1
    exact k_bi (f := fun a b => w32 (a * b)) (F := fun x y => x * y) (fun a b => i32_mul a b) hP hS hl (fun x y rest kk => lv_imul hx hb hd kk) h K
  | iand =>
    have e1 : len = 1 := eq_of_beq (show (len == 1) = true from hln)
    subst e1
    exact k_bi (f := bAnd) (F := fun x y => x &&& y) (fun a b => (o32 _).symm) hP hS hl (fun x y rest kk => lv_iand hx hb hd kk) h K
  | ior =>
    have e1 : len = 1 := eq_of_beq (show (len == 1) = true from hln)
    subst e1
    exact k_bi (f := bOr) (F := fun x y => x ||| y) (fun a b => (o32 _).symm) hP hS hl (fun x y rest kk => lv_ior hx hb hd kk) h K
  | ixor =>
    have e1 : len = 1 := eq_of_beq (show (len == 1) = true from hln)
    subst e1
    exact k_bi (f := bXor) (F := fun x y => x ^^^ y) (fun a b => (o32 _).symm) hP hS hl (fun x y rest kk => lv_ixor hx hb hd kk) h K
  | ishl =>
    have e1 : len = 1 := eq_of_beq (show (len == 1) = true from hln)
    subst e1
    exact k_bi (f := bShl) (F := fun x y => x <<< (y &&& 31)) (fun a b => (o32 _).symm) hP hS hl (fun x y rest kk => lv_ishl hx hb hd kk) h K
  | ishr =>
    have e1 : len = 1 := eq_of_beq (show (len == 1) = true from hln)
    subst e1
    exact k_bi (f := bShr) (F := fun x y => x >>> (y &&& 31)) (fun a b => (o32 _).symm) hP hS hl (fun x y rest kk => lv_ishr hx hb hd kk) h K
  | iushr =>
    have e1 : len = 1 := eq_of_beq (show (len == 1) = true from hln)
    subst e1
    exact k_bi (f := bUsh) (F := fun x y => (x.toUInt32 >>> (y.toUInt32 &&& Int32.toUInt32 31)).toInt32) (fun a b => (o32 _).symm) hP hS hl (fun x y rest kk => lv_iushr hx hb hd rfl kk) h K
  | idiv =>
    have e1 : len = 1 := eq_of_beq (show (len == 1) = true from hln)
    subst e1
    simp only [sx] at h
    split at h
    · split at h
      · rename_i b a r hc
        cases h
        have hb2 : ir b := ok_h hst
        have ha2 : ir a := ok_h (ok_t hst)
        refine lv_idiv hx hb hd (fun e => ?_) ?_
        · have := (i32_eq hb2 (show ir 0 by decide)).mp e
          omega
        · rw [i32_div ha2 hb2 hc.1 hc.2]
          exact K H locs ra hP hS hl
      · cases h
    · cases h
  | irem =>
    have e1 : len = 1 := eq_of_beq (show (len == 1) = true from hln)
    subst e1
    simp only [sx] at h
    split at h
    · split at h
      · rename_i b a r hc
        cases h
        have hb2 : ir b := ok_h hst
        have ha2 : ir a := ok_h (ok_t hst)
        refine lv_irem hx hb hd (fun e => ?_) ?_
        · have := (i32_eq hb2 (show ir 0 by decide)).mp e
          omega
        · rw [i32_rem ha2 hb2 hc.1 hc.2]
          exact K H locs ra hP hS hl
      · cases h
    · cases h
  | ineg =>
    have e1 : len = 1 := eq_of_beq (show (len == 1) = true from hln)
    subst e1
    simp only [sx] at h
    split at h
    · rename_i a r
      cases h
      refine lv_ineg hx hb hd ?_
      rw [show -Int32.ofInt a = Int32.ofInt (w32 (-a)) by rw [w32, o32, Int32.ofInt_neg]]
      exact K H locs ra hP hS hl
    · cases h
  | ladd =>
    have e1 : len = 1 := eq_of_beq (show (len == 1) = true from hln)
    subst e1
    exact k_bl (f := fun a b => w64 (a + b)) (F := fun x y => x + y) (fun a b => i64_add a b) hP hS hl (fun x y rest kk => lv_ladd hx hb hd kk) h K
  | lsub =>
    have e1 : len = 1 := eq_of_beq (show (len == 1) = true from hln)
    subst e1
    exact k_bl (f := fun a b => w64 (a - b)) (F := fun x y => x - y) (fun a b => i64_sub a b) hP hS hl (fun x y rest kk => lv_lsub hx hb hd kk) h K
  | lmul =>
    have e1 : len = 1 := eq_of_beq (show (len == 1) = true from hln)
    subst e1
    exact k_bl (f := fun a b => w64 (a * b)) (F := fun x y => x * y) (fun a b => i64_mul a b) hP hS hl (fun x y rest kk => lv_lmul hx hb hd kk) h K
  | land =>
    have e1 : len = 1 := eq_of_beq (show (len == 1) = true from hln)
    subst e1
    exact k_bl (f := lAnd) (F := fun x y => x &&& y) (fun a b => (o64 _).symm) hP hS hl (fun x y rest kk => lv_land hx hb hd kk) h K
  | lor =>
    have e1 : len = 1 := eq_of_beq (show (len == 1) = true from hln)
    subst e1
    exact k_bl (f := lOr) (F := fun x y => x ||| y) (fun a b => (o64 _).symm) hP hS hl (fun x y rest kk => lv_lor hx hb hd kk) h K
  | lshl =>
    have e1 : len = 1 := eq_of_beq (show (len == 1) = true from hln)
    subst e1
    exact k_bs (f := lShl) (F := fun x y => x <<< (y.toInt64 &&& 63)) (fun a b => (o64 _).symm) hP hS hl (fun x y rest kk => lv_lshl hx hb hd rfl kk) h K
  | lshr =>
    have e1 : len = 1 := eq_of_beq (show (len == 1) = true from hln)
    subst e1
    exact k_bs (f := lShr) (F := fun x y => x >>> (y.toInt64 &&& 63)) (fun a b => (o64 _).symm) hP hS hl (fun x y rest kk => lv_lshr hx hb hd rfl kk) h K
  | lushr =>
    have e1 : len = 1 := eq_of_beq (show (len == 1) = true from hln)
    subst e1
    exact k_bs (f := lUsh) (F := fun x y => (x.toUInt64 >>> (y.toInt64.toUInt64 &&& Int64.toUInt64 63)).toInt64) (fun a b => (o64 _).symm) hP hS hl (fun x y rest kk => lv_lushr hx hb hd rfl kk) h K
  | lcmp =>
    have e1 : len = 1 := eq_of_beq (show (len == 1) = true from hln)
    subst e1
    simp only [sx] at h
    split at h
    · rename_i b a r
      cases h
      refine W.lcmp hx hb hd ?_
      rw [lcmp_c (ok_h (ok_t hst)) (ok_h hst)]
      exact K H locs ra hP hS hl
    · cases h
  | i2l =>
    have e1 : len = 1 := eq_of_beq (show (len == 1) = true from hln)
    subst e1
    simp only [sx] at h
    split at h
    · rename_i a r
      cases h
      exact lv_i2l hx hb hd (i2l_c (ok_h hst)) (K H locs ra hP hS hl)
    · cases h
  | l2i =>
    have e1 : len = 1 := eq_of_beq (show (len == 1) = true from hln)
    subst e1
    simp only [sx] at h
    split at h
    · rename_i a r
      cases h
      exact lv_l2i hx hb hd (l2i_c (ok_h hst)) (K H locs ra hP hS hl)
    · cases h
  | dup =>
    have e1 : len = 1 := eq_of_beq (show (len == 1) = true from hln)
    subst e1
    simp only [sx] at h
    split at h
    · split at h
      · rename_i v r hc
        cases h
        exact lv_dup hx hb hd (rv_cat hc) (K H locs ra hP hS hl)
      · cases h
    · cases h
  | pop =>
    have e1 : len = 1 := eq_of_beq (show (len == 1) = true from hln)
    subst e1
    simp only [sx] at h
    split at h
    · split at h
      · rename_i v r hc
        cases h
        exact lv_pop hx hb hd (rv_cat hc) (K H locs ra hP hS hl)
      · cases h
    · cases h
  | dup_x1 =>
    have e1 : len = 1 := eq_of_beq (show (len == 1) = true from hln)
    subst e1
    simp only [sx] at h
    split at h
    · split at h
      · rename_i v w r hc
        cases h
        exact lv_dup_x1 hx hb hd (rv_cat hc.1) (rv_cat hc.2) (K H locs ra hP hS hl)
      · cases h
    · cases h
  | dup2 =>
    have e1 : len = 1 := eq_of_beq (show (len == 1) = true from hln)
    subst e1
    simp only [sx] at h
    split at h
    · split at h
      · rename_i v w r hc
        cases h
        exact lv_dup2_11 hx hb hd (rv_cat hc.1) (rv_cat hc.2) (K H locs ra hP hS hl)
      · cases h
    · cases h
  | goto off =>
    have e1 : len = 3 := eq_of_beq (show (len == 3) = true from hln)
    subst e1
    obtain ⟨ht, kk⟩ := k_jmp hP hS hl h K
    exact lv_goto hx hb hd ht kk
  | ifCond cd off =>
    have e1 : len = 3 := eq_of_beq (show (len == 3) = true from hln)
    subst e1
    simp only [sx, br] at h
    split at h
    · rename_i a r
      split at h
      · rename_i h0
        have ha : ir a := ok_h hst
        have z0 : ir 0 := by decide
        have ht : (pc : Int) + off = ((((pc : Int) + off).toNat : Nat) : Int) := by omega
        cases h
        have kk := K H locs ra hP hS hl
        by_cases hc : cnd cd a 0 = true
        · rw [if_pos hc] at kk
          cases cd with
          | eq => exact lv_if_eq hx hb hd ht (fun _ => kk) (fun hn => absurd ((i32_eq ha z0).mpr (by simpa [cnd] using hc)) hn)
          | ne => exact lv_if_ne hx hb hd ht (fun _ => kk) (fun hn => absurd ((i32_eq ha z0).mp hn) (by simpa [cnd] using hc))
          | lt => exact lv_if_lt hx hb hd ht (fun _ => kk) (fun hn => absurd ((i32_lt ha z0).mpr (by simpa [cnd] using hc)) hn)
          | ge => exact lv_if_ge hx hb hd ht (fun _ => kk) (fun hn => absurd ((i32_le z0 ha).mpr (by simpa [cnd] using hc)) hn)
          | gt => exact lv_if_gt hx hb hd ht (fun _ => kk) (fun hn => absurd ((i32_lt z0 ha).mpr (by simpa [cnd] using hc)) hn)
          | le => exact lv_if_le hx hb hd ht (fun _ => kk) (fun hn => absurd ((i32_le ha z0).mpr (by simpa [cnd] using hc)) hn)
        · rw [if_neg hc] at kk
          cases cd with
          | eq => exact lv_if_eq hx hb hd ht (fun hn => absurd (by simpa [cnd] using (i32_eq ha z0).mp hn) hc) (fun _ => kk)
          | ne => exact lv_if_ne hx hb hd ht (fun hn => absurd (by simpa [cnd] using fun e => hn ((i32_eq ha z0).mpr e)) hc) (fun _ => kk)
          | lt => exact lv_if_lt hx hb hd ht (fun hn => absurd (by simpa [cnd] using (i32_lt ha z0).mp hn) hc) (fun _ => kk)
          | ge => exact lv_if_ge hx hb hd ht (fun hn => absurd (by simpa [cnd] using (i32_le z0 ha).mp hn) hc) (fun _ => kk)
          | gt => exact lv_if_gt hx hb hd ht (fun hn => absurd (by simpa [cnd] using (i32_lt z0 ha).mp hn) hc) (fun _ => kk)
          | le => exact lv_if_le hx hb hd ht (fun hn => absurd (by simpa [cnd] using (i32_le ha z0).mp hn) hc) (fun _ => kk)
      · cases h
    · cases h
  | if_icmp cd off =>
    have e1 : len = 3 := eq_of_beq (show (len == 3) = true from hln)
    subst e1
    simp only [sx, br] at h
    split at h
    · rename_i b a r
      split at h
      · rename_i h0
        have hb2 : ir b := ok_h hst
        have ha : ir a := ok_h (ok_t hst)
        have ht : (pc : Int) + off = ((((pc : Int) + off).toNat : Nat) : Int) := by omega
        cases h
        have kk := K H locs ra hP hS hl
        by_cases hc : cnd cd a b = true
        · rw [if_pos hc] at kk
          cases cd with
          | eq => exact lv_icmp_eq hx hb hd ht (fun _ => kk) (fun hn => absurd ((i32_eq ha hb2).mpr (by simpa [cnd] using hc)) hn)
          | ne => exact lv_icmp_ne hx hb hd ht (fun _ => kk) (fun hn => absurd ((i32_eq ha hb2).mp hn) (by simpa [cnd] using hc))
          | lt => exact lv_icmp_lt hx hb hd ht (fun _ => kk) (fun hn => absurd ((i32_lt ha hb2).mpr (by simpa [cnd] using hc)) hn)
          | ge => exact lv_icmp_ge hx hb hd ht (fun _ => kk) (fun hn => absurd ((i32_le hb2 ha).mpr (by simpa [cnd] using hc)) hn)
          | gt => exact lv_icmp_gt hx hb hd ht (fun _ => kk) (fun hn => absurd ((i32_lt hb2 ha).mpr (by simpa [cnd] using hc)) hn)
          | le => exact lv_icmp_le hx hb hd ht (fun _ => kk) (fun hn => absurd ((i32_le ha hb2).mpr (by simpa [cnd] using hc)) hn)
        · rw [if_neg hc] at kk
          cases cd with
          | eq => exact lv_icmp_eq hx hb hd ht (fun hn => absurd (by simpa [cnd] using (i32_eq ha hb2).mp hn) hc) (fun _ => kk)
          | ne => exact lv_icmp_ne hx hb hd ht (fun hn => absurd (by simpa [cnd] using fun e => hn ((i32_eq ha hb2).mpr e)) hc) (fun _ => kk)
          | lt => exact lv_icmp_lt hx hb hd ht (fun hn => absurd (by simpa [cnd] using (i32_lt ha hb2).mp hn) hc) (fun _ => kk)
          | ge => exact lv_icmp_ge hx hb hd ht (fun hn => absurd (by simpa [cnd] using (i32_le hb2 ha).mp hn) hc) (fun _ => kk)
          | gt => exact lv_icmp_gt hx hb hd ht (fun hn => absurd (by simpa [cnd] using (i32_lt hb2 ha).mp hn) hc) (fun _ => kk)
          | le => exact lv_icmp_le hx hb hd ht (fun hn => absurd (by simpa [cnd] using (i32_le ha hb2).mp hn) hc) (fun _ => kk)
      · cases h
    · cases h
  | tableswitch dd lo hi offs =>
    simp only [sx] at h
    split at h
    · rename_i a r
      have ha : ir a := ok_h hst
      split at h
      · rename_i hc
        obtain ⟨ht, kk⟩ := k_jmp (st := r) hP hS hl h K
        exact lv_tableOut hx hb hd (by rw [i32_ti ha]; exact hc) ht kk
      · rename_i hc
        split at h
        · rename_i off ho
          obtain ⟨ht, kk⟩ := k_jmp (st := r) hP hS hl h K
          exact lv_tableIn hx hb hd (by rw [i32_ti ha]; omega) (by rw [i32_ti ha]; omega) (by rw [i32_ti ha]; exact ho) ht kk
        · cases h
    · cases h
  | getfield k =>
    have e1 : len = 3 := eq_of_beq (show (len == 3) = true from hln)
    subst e1
    simp only [sx] at h
    split at h
    · rename_i a r
      split at h
      · rename_i nst ci sl hf
        split at h
        · rename_i hc
          obtain ⟨f1, f2, f3, f4, f5, f6⟩ := fTab_facts hf
          have hci : ci < 13 := by
            have := (List.getElem?_eq_some_iff.mp f1).1
            exact this
          have hac : a < cNum := cK_lt (by omega)
          have he : (wl ad cA g)[a]? = some (ad a, .inr (ci, (List.range (fNm ci)).map (fun i => fV ad g ci a i))) := by rw [wl_get ad cA g hac, ent_o hc hci]
          have hv : ((List.range (fNm ci)).map (fun i => fV ad g ci a i))[sl]? = some (fV ad g ci a sl) := by
            have : sl < fNm ci := by omega
            simp [this]
          have kk : W p l e R s m args below meth c H locs cells slots Q (F0 m (pc + 3) ra (fV ad g ci a sl :: r.map (rv ad))) := by
            split at h
            · rename_i ht
              cases h
              have := K H locs ra hP hS hl
              simpa [fV, ht, rv] using this
            · rename_i ht
              cases h
              have := K H locs ra hP hS hl
              simpa [fV, ht, rv] using this
            · rename_i ht0 ht1
              cases h
              have := K H locs ra hP hS hl
              have e2 : fV ad g ci a sl = .ref (ad (cRef a sl)) := by
                unfold fV
                split
                · rename_i z; exact absurd z ht0
                · rename_i z; exact absurd z ht1
                · rfl
              rw [e2]
              exact this
          rcases f6 with ⟨-, f6⟩ | ⟨-, f6⟩
          · have hw := hts _ f6
            exact va_get (D := (dC, dI)) (ci := ci) (C := (clN ci).1) (T := (clN ci).2.1) (N := (clN ci).2.2) hx hb hts (inW hci) hown hK.1 hP a he f1 sl f2 hw (fun x hx' => by rw [f3] at hx'; exact hx') hv hd kk
          · have hw := va_Nw.use (A := args) (nestW_tab f6) (hK.2.2 _ f6)
            exact va_getN (D := (dC, dI)) (ci := ci) (C := (clN ci).1) (T := (clN ci).2.1) (N := (clN ci).2.2) hx hb hts (inW hci) hown hK.1 hP a he f1 sl f2 hw (fun x hx' => by rw [f3] at hx'; exact hx') hv hd kk
        · cases h
      · cases h
    · cases h
  | putfield k =>
    have e1 : len = 3 := eq_of_beq (show (len == 3) = true from hln)
    subst e1
    simp only [sx] at h
    have main : ∀ (a ci sl : Nat) (x : Int) (v : Value) (r : List SV), fTab q.1 k = some (0, ci, sl) → cK a = ci → fTy ci sl < 2 → fV ad (up g a sl x) ci a sl = v → narrow (fTyp (fTy ci sl)) v = v → fits (fTyp (fTy ci sl)) v = true → Kon p l e R s m args below meth c cells slots Q ad cA dC dI q.2.1 (pc + 3) ls r (up g a sl x) → W p l e R s m args below meth c H locs cells slots Q (F0 m pc ra (v :: .ref (ad a) :: r.map (rv ad))) := by
      intro a ci sl x v r hf hc hty hv hnar hfit K
      obtain ⟨f1, f2, f3, f4, f5, f6⟩ := fTab_facts hf
      have hci : ci < 13 := by
        have := (List.getElem?_eq_some_iff.mp f1).1
        exact this
      have hac : a < cNum := cK_lt (by omega)
      have he : (wl ad cA g)[a]? = some (ad a, .inr (ci, (List.range (fNm ci)).map (fun i => fV ad g ci a i))) := by rw [wl_get ad cA g hac, ent_o hc hci]
      rcases f5 with f5 | ⟨f5, f5b, -⟩
      · omega
      rcases f6 with ⟨-, f6⟩ | ⟨h01, -⟩
      · have hw := hts _ f6
        refine va_put (D := (dC, dI)) (ci := ci) (C := (clN ci).1) (T := (clN ci).2.1) (N := (clN ci).2.2) hx hb hts (inW hci) (clTy ci) (clTy_ok hci).1 (clTy_ok hci).2 hown hK.1 hP hD hS a he f1 sl f2 hw (fun x hx' => by rw [f3] at hx'; exact hx') f5b f5 hnar hfit (by simp; omega) hd (fun H1 locs1 hP1 _ hS1 => ?_)
        rw [wl_set (ent_put hc hci hv) (fun j hj i => by simp [up, hj])] at hP1
        exact K H1 locs1 ra hP1 hS1 hl
      · omega
    split at h
    · rename_i x a r
      split at h
      · rename_i ci sl hf
        split at h
        · rename_i hc
          cases h
          exact main a ci sl x (.int (Int32.ofInt x)) _ hf hc.1 (by omega) (by simp [fV, hc.2, up, rv]) (by rw [hc.2]; rfl) (by rw [hc.2]; rfl) K
        · cases h
      · cases h
    · rename_i x a r
      split at h
      · rename_i ci sl hf
        split at h
        · rename_i hc
          cases h
          exact main a ci sl x (.long (Int64.ofInt x)) _ hf hc.1 (by omega) (by simp [fV, hc.2, up, rv]) (by rw [hc.2]; rfl) (by rw [hc.2]; rfl) K
        · cases h
      · cases h
    · cases h
  | getstatic k =>
    have e1 : len = 3 := eq_of_beq (show (len == 3) = true from hln)
    subst e1
    simp only [sx] at h
    split at h
    · rename_i hc
      obtain ⟨hc1, rfl⟩ := hc
      cases h
      have hw := hts _ wNum
      rw [hc1] at hown
      exact va_gets (own := RX8) (ref := RX8) hx hb hZ.1 hS hown hw (fun x h => h) hd (K H locs ra hP hS hl)
    · cases h
  | arraylength =>
    have e1 : len = 1 := eq_of_beq (show (len == 1) = true from hln)
    subst e1
    simp only [sx] at h
    split at h
    · rename_i a r
      split at h
      · rename_i hc
        cases h
        have kk := K H locs ra hP hS hl
        by_cases h220' : a = 220
        · subst h220'
          refine va_slen hx hb hZ.2.2.1 hZ.2.2.2.1 hZ.2.2.2.2.1 hS hd ?_
          have e2 : Int32.ofInt (aLen 220 g : Nat) = Int32.ofNat (x0 100000).toNat := by
            rw [show aLen 220 g = (x0 100000).toNat by simp [aLen, h220], Int32.ofInt_eq_ofNat]
          have kk2 : W p l e R s m args below meth c H locs cells slots Q (F0 m (pc + 1) ra (.int (Int32.ofInt (aLen 220 g : Nat)) :: _)) := kk
          rw [e2] at kk2
          exact kk2
        · by_cases h210' : a = 210
          · subst h210'
            exact va_tlen hx hb hZ.2.1 hS rfl hd (by
              have kk2 : W p l e R s m args below meth c H locs cells slots Q (F0 m (pc + 1) ra (.int (Int32.ofInt (aLen 210 g : Nat)) :: _)) := kk
              exact kk2)
          · have hcc : cK a = 100 ∨ cK a = 101 := by
              rcases hc with hc | hc
              · simp only [isIA, Bool.or_eq_true, beq_iff_eq] at hc
                rcases hc with hc | hc | hc
                · exact Or.inl hc
                · exact absurd hc h210'
                · exact absurd hc h220'
              · exact Or.inr hc
            have hac : a < cNum := cK_lt (by omega)
            have e3 : aLen a g = cLn a := by simp [aLen, h220', h210']
            have kk2 : W p l e R s m args below meth c H locs cells slots Q (F0 m (pc + 1) ra (.int (Int32.ofInt (aLen a g : Nat)) :: _)) := kk
            rw [e3] at kk2
            rcases hcc with hcc | hcc
            · exact va_alen hx hb (shK_arr hK hac (by omega) (by rw [hcc]; rfl)) hP a 0 (ty := .int) (by rw [wl_get ad cA g hac, ent_i (Or.inl hcc)]) rfl (v := Int32.ofInt (cLn a : Nat)) (by show Int32.ofNat (cLn a) = _; rw [Int32.ofInt_eq_ofNat]) hd kk2
            · exact va_alen hx hb (shK_arr hK hac (by omega) (by rw [hcc]; rfl)) hP a 0 (ty := .long) (by rw [wl_get ad cA g hac, ent_l hcc]) rfl (v := Int32.ofInt (cLn a : Nat)) (by show Int32.ofNat (cLn a) = _; rw [Int32.ofInt_eq_ofNat]) hd kk2
      · cases h
    · cases h
  | iaload =>
    have e1 : len = 1 := eq_of_beq (show (len == 1) = true from hln)
    subst e1
    simp only [sx] at h
    split at h
    · rename_i i a r
      split at h
      · rename_i hc
        have hi : ir i := ok_h hst
        cases h
        have kk := K H locs ra hP hS hl
        have hc1 := hc.1
        simp only [isIA, Bool.or_eq_true, beq_iff_eq] at hc1
        rcases hc1 with hcc | rfl | rfl
        · have hac : a < cNum := cK_lt (by omega)
          have e3 : aLen a g = cLn a := by
            have h1 : a ≠ 220 := by unfold cNum at hac; omega
            have h2 : a ≠ 210 := by unfold cNum at hac; omega
            simp [aLen, h1, h2]
          refine va_iald hx hb (shK_arr hK hac (by omega) (by rw [hcc]; rfl)) hP a 0 (by rw [wl_get ad cA g hac, ent_i (Or.inl hcc)]) rfl (i32_in hi hc.2.1 (by have := hc.2.2; rw [e3] at this; exact this)) hd ?_
          rw [i32_cl hi]
          exact kk
        · refine va_ti hx hb hZ.2.1 hS (i32_in hi hc.2.1 hc.2.2) (v := .int (Int32.ofInt (g 210 i.toNat))) (by rw [i32_cl hi, h210]) hd ?_
          exact kk
        · refine va_sld hx hb hZ.2.2.1 hZ.2.2.2.1 hZ.2.2.2.2.1 hS (i32_in hi hc.2.1 (by have := hc.2.2; simpa [aLen, h220] using this)) hd ?_
          rw [i32_cl hi]
          rw [← h220]
          exact kk
      · cases h
    · cases h
  | iastore =>
    have e1 : len = 1 := eq_of_beq (show (len == 1) = true from hln)
    subst e1
    simp only [sx] at h
    split at h
    · rename_i x i a r
      split at h
      · rename_i hc
        have hi : ir i := ok_h (ok_t hst)
        cases h
        have hac : a < cNum := cK_lt (by omega)
        refine va_iast hx hb (shK_arr hK hac (by omega) (by rw [hc.1]; rfl)) hP hD hS a 0 (by rw [wl_get ad cA g hac, ent_i (Or.inl hc.1)]) rfl (i32_in hi hc.2.1 hc.2.2) hd (fun H1 locs1 hP1 _ hS1 => ?_)
        rw [← upd_32 hi, wl_set (g' := up g a i.toNat x) (ent_i (Or.inl hc.1)) (fun j hj i => by simp [up, hj])] at hP1
        exact K H1 locs1 ra hP1 hS1 hl
      · cases h
    · cases h
  | laload =>
    have e1 : len = 1 := eq_of_beq (show (len == 1) = true from hln)
    subst e1
    simp only [sx] at h
    split at h
    · rename_i i a r
      split at h
      · rename_i hc
        have hi : ir i := ok_h hst
        cases h
        have kk := K H locs ra hP hS hl
        have hac : a < cNum := cK_lt (by omega)
        refine va_lald hx hb (shK_arr hK hac (by omega) (by rw [hc.1]; rfl)) hP a 0 (by rw [wl_get ad cA g hac, ent_l hc.1]) rfl (i32_in hi hc.2.1 hc.2.2) hd ?_
        rw [i32_cl hi]
        exact kk
      · cases h
    · cases h
  | lastore =>
    have e1 : len = 1 := eq_of_beq (show (len == 1) = true from hln)
    subst e1
    simp only [sx] at h
    split at h
    · rename_i x i a r
      split at h
      · rename_i hc
        have hi : ir i := ok_h (ok_t hst)
        cases h
        have hac : a < cNum := cK_lt (by omega)
        refine va_last hx hb (shK_arr hK hac (by omega) (by rw [hc.1]; rfl)) hP hD hS a 0 (by rw [wl_get ad cA g hac, ent_l hc.1]) rfl (i32_in hi hc.2.1 hc.2.2) hd (fun H1 locs1 hP1 _ hS1 => ?_)
        rw [← upd_64 hi, wl_set (g' := up g a i.toNat x) (ent_l hc.1) (fun j hj i => by simp [up, hj])] at hP1
        exact K H1 locs1 ra hP1 hS1 hl
      · cases h
    · cases h
  | baload =>
    have e1 : len = 1 := eq_of_beq (show (len == 1) = true from hln)
    subst e1
    simp only [sx] at h
    split at h
    · rename_i i a r
      split at h
      · rename_i hc
        have hi : ir i := ok_h hst
        cases h
        have kk := K H locs ra hP hS hl
        have hac : a < cNum := cK_lt (by omega)
        refine va_zald hx hb (shK_arr hK hac (by omega) (by rw [hc.1]; rfl)) hP a 0 (by rw [wl_get ad cA g hac, ent_i (Or.inr hc.1)]) rfl (i32_in hi hc.2.1 hc.2.2) hd ?_
        rw [i32_cl hi]
        exact kk
      · cases h
    · cases h
  | bastore =>
    have e1 : len = 1 := eq_of_beq (show (len == 1) = true from hln)
    subst e1
    simp only [sx] at h
    split at h
    · rename_i x i a r
      split at h
      · rename_i hc
        have hi : ir i := ok_h (ok_t hst)
        cases h
        have hac : a < cNum := cK_lt (by omega)
        have hn : vp_nar .boolean (Int32.ofInt x) = Int32.ofInt x := by
          rcases hc.2.2.2 with rfl | rfl <;> decide
        refine va_zast hx hb (shK_arr hK hac (by omega) (by rw [hc.1]; rfl)) hP hD hS a 0 (by rw [wl_get ad cA g hac, ent_i (Or.inr hc.1)]) rfl (i32_in hi hc.2.1 hc.2.2.1) hd (fun H1 locs1 hP1 _ hS1 => ?_)
        rw [hn, ← upd_32 hi, wl_set (g' := up g a i.toNat x) (ent_i (Or.inr hc.1)) (fun j hj i => by simp [up, hj])] at hP1
        exact K H1 locs1 ra hP1 hS1 hl
      · cases h
    · cases h
  | aaload =>
    have e1 : len = 1 := eq_of_beq (show (len == 1) = true from hln)
    subst e1
    simp only [sx] at h
    split at h
    · rename_i i a r
      split at h
      · rename_i hc
        have hi : ir i := ok_h hst
        cases h
        have kk := K H locs ra hP hS hl
        have hac : a < cNum := cK_lt (by omega)
        rcases hc.1 with hcc | hcc
        · refine va_aldq hx hb (shK_arr hK hac (by omega) (by rw [hcc]; rfl)) hP a 0 (C := RX7) (by rw [wl_get ad cA g hac, ent_q (Or.inl hcc)]) rfl (i32_in hi hc.2.1 hc.2.2) hd ?_
          rw [i32_cl hi]
          exact kk
        · refine va_aldq hx hb (shK_arr hK hac (by omega) (by rw [hcc]; rfl)) hP a 0 (C := RX2) (by rw [wl_get ad cA g hac, ent_q (Or.inr hcc)]) rfl (i32_in hi hc.2.1 hc.2.2) hd ?_
          rw [i32_cl hi]
          exact kk
      · cases h
    · cases h
  | invokestatic k =>
    have e1 : len = 3 := eq_of_beq (show (len == 3) = true from hln)
    subst e1
    simp only [sx] at h
    split at h
    · rename_i n9 hct
      split at h
      · rename_i n dp dd sp ss r
        split at h
        · rename_i hc
          obtain ⟨⟨c1, c2⟩, ⟨c3, c4, c5⟩, c6, c7, c8⟩ := hc
          have hn : ir n := ok_h hst
          have hdp : ir dp := ok_h (ok_t hst)
          have hsp : ir sp := ok_h (ok_t (ok_t (ok_t hst)))
          cases h
          have has : ss < cNum := cK_lt (by omega)
          have hac : dd < cNum := cK_lt (by omega)
          have hw := hts _ (ac_link hct)
          have hw2 := hts _ wAcN
          have hw3 := hts _ wAcS
          have hw4 := hts _ wAcI
          have hK2 : va_K (dC, dI) vwCl [(cA ss, .int), (cA dd, .int)] s := by
            have k1 := shK_arr hK has (by omega) (show aTy (cK ss) = .int by rw [c1]; rfl)
            have k2 := shK_arr hK hac (by omega) (show aTy (cK dd) = .int by rw [c2]; rfl)
            exact k1.app k2
          refine va_copyi hx hb (by rw [hml]; exact hl.1.symm) hown hw hw2 hw3 hw4 hK2 hP hD hS ss dd 0 1 (ty := .int) (by rw [wl_get ad cA g has, ent_i (Or.inl c1)]) (by rw [wl_get ad cA g hac, ent_i (Or.inl c2)]) rfl rfl rfl (i32_nn hsp c3) (i32_nn hdp c4) (i32_nn hn c5) (by rw [i32_cl hsp, i32_cl hn]; omega) (by rw [i32_cl hdp, i32_cl hn]; omega) (fun _ _ => rfl) (by omega) (by
              have e5 : ((st'.map (rv ad)).map fun v => v.category).sum = (st'.map cat).sum := rv_sum st'
              rw [e5]
              have : nativeFrameWords "java/lang/System" "arraycopy" 5 = 7 := by decide
              rw [this]; omega) hd (fun H1 locs1 hP1 _ hS1 => ?_)
          rw [i32_cl hsp, i32_cl hdp, i32_cl hn] at hP1
          have e6 : ent ad cA (cpy g ss sp.toNat dd dp.toNat n.toNat) dd = .inl (cA dd, cLn dd, .inl (va_cpy (fun i => Int32.ofInt (g ss i)) (fun i => Int32.ofInt (g dd i)) sp.toNat dp.toNat n.toNat)) := by
            rw [ent_i (Or.inl c2)]
            congr 3
            congr 1
            funext j
            by_cases hj : dp.toNat ≤ j ∧ j < dp.toNat + n.toNat
            · simp only [cpy, va_cpy]
              rw [if_pos ⟨trivial, hj⟩, if_pos hj]
            · simp only [cpy, va_cpy]
              rw [if_neg (fun h => hj h.2), if_neg hj]
          rw [wl_set (g' := cpy g ss sp.toNat dd dp.toNat n.toNat) e6 (fun j hj i => by simp [cpy, hj])] at hP1
          exact K H1 locs1 ra hP1 hS1 hl
        · cases h
      · cases h
    · cases h
  | invokevirtual k =>
    have e1 : len = 3 := eq_of_beq (show (len == 3) = true from hln)
    subst e1
    simp only [sx] at h
    split at h
    · rename_i n9 hct
      split at h
      · rename_i a r
        split at h
        · rename_i hc
          cases h
          exact hSL p l e R s m args below meth c H locs cells slots Q _ _ pc ra _ q.1 k n9 a hx hb hml hown hts (by omega) (by omega) hce hsl hZ.2.2.2.2.2.2 hS hl.1 hct hc.1 hc.2.1 (by rw [rv_sum]; exact hc.2.2) hd (K H locs ra hP hS hl)
        · cases h
      · cases h
    · rename_i n9 hct
      split at h
      · rename_i i a r
        split at h
        · rename_i hc
          cases h
          exact hSA p l e R s m args below meth c H locs cells slots Q _ _ pc ra _ q.1 k n9 a i hx hb hml hown hts (by omega) (by omega) hce hsl hZ.2.2.2.2.2.2 hS hl.1 hct hc.1 hc.2.1 hc.2.2.1 hc.2.2.2.1 (by rw [rv_sum]; exact hc.2.2.2.2) hd (K H locs ra hP hS hl)
        · cases h
      · cases h
    · cases h
  | _ => simp [sx] at h
end SY
end
section
/-! THE SHADOW IS SOUND: frames, calls, and the whole -/
theorem mkA_args (ad : Nat → Nat) : ∀ (a : List SV) (k j : Nat) (v : SV), (mkA a)[j]? = some v → isU v = false → (k + j, rv ad v) ∈ lv_args k (a.map (rv ad)) := by
  intro a
  induction a with
  | nil => intro k j v h; simp [mkA] at h
  | cons x a ih =>
    intro k j v h hu
    rw [mkA_cons] at h
    simp only [List.map_cons, lv_args]
    rcases x with x | x | x
    · have e1 : (rv ad (.inl x)).category ≠ 2 := by simp [rv, Value.category]
      rw [if_neg e1]
      cases j with
      | zero =>
        simp [mkA1] at h
        subst h
        exact List.mem_cons_self
      | succ j =>
        have h2 : (mkA a)[j]? = some v := by simpa [mkA1] using h
        have := ih (k + 1) j v h2 hu
        rw [show k + 1 + j = k + (j + 1) by omega] at this
        exact List.mem_cons_of_mem _ this
    · have e1 : (rv ad (.inr (.inl x))).category = 2 := rfl
      rw [if_pos e1]
      match j, h with
      | 0, h =>
        simp [mkA1] at h
        subst h
        exact List.mem_cons_self
      | 1, h =>
        simp [mkA1] at h
        subst h
        simp [isU] at hu
      | j + 2, h =>
        have h2 : (mkA a)[j]? = some v := by simpa [mkA1] using h
        have := ih (k + 2) j v h2 hu
        rw [show k + 2 + j = k + (j + 2) by omega] at this
        exact List.mem_cons_of_mem _ this
    · have e1 : (rv ad (.inr (.inr x))).category ≠ 2 := by rcases x with x | x <;> simp [rv, Value.category]
      rw [if_neg e1]
      cases j with
      | zero =>
        simp [mkA1] at h
        subst h
        exact List.mem_cons_self
      | succ j =>
        have h2 : (mkA a)[j]? = some v := by simpa [mkA1] using h
        have := ih (k + 1) j v h2 hu
        rw [show k + 1 + j = k + (j + 1) by omega] at this
        exact List.mem_cons_of_mem _ this
theorem mkA_sl (ad : Nat → Nat) (a : List SV) : (lg_sl (a.map (rv ad))).length = (mkA a).length := by
  induction a with
  | nil => rfl
  | cons x a ih =>
    have e1 : lg_sl ((x :: a).map (rv ad)) = (if (rv ad x).category = 2 then [.val (rv ad x), .second] else [.val (rv ad x)]) ++ lg_sl (a.map (rv ad)) := by simp [lg_sl]
    rw [mkA_cons, e1, List.length_append, List.length_append, ih]
    congr 1
    rcases x with x | x | x | x <;> simp [rv, Value.category, mkA1]
theorem mkL_lvl (ad : Nat → Nat) (n : Nat) (a : List SV) : ∀ q ∈ lvl ad (mkL n a), q ∈ lv_args 0 (a.map (rv ad)) := by
  rintro ⟨j, w⟩ hq
  obtain ⟨v, h1, h2, rfl⟩ := lvl_mem.mp hq
  unfold mkL at h1
  by_cases hj : j < (mkA a).length
  · rw [List.getElem?_append_left hj] at h1
    have := mkA_args ad a 0 j v h1 h2
    rwa [Nat.zero_add] at this
  · rw [List.getElem?_append_right (by omega)] at h1
    have := List.eq_of_mem_replicate (List.mem_of_getElem? h1)
    subst this
    simp [isU] at h2
theorem mkL_len {n : Nat} {a : List SV} (h : (mkA a).length ≤ n) : (mkL n a).length = n := by
  simp [mkL]
  omega
theorem mkL_ok {n : Nat} {a : List SV} (h : ∀ v ∈ a, okV v) : ∀ v ∈ mkL n a, okV v := by
  intro v hv
  unfold mkL at hv
  rcases List.mem_append.mp hv with hv | hv
  · unfold mkA at hv
    obtain ⟨x, hx, hx2⟩ := List.mem_flatMap.mp hv
    rcases x with x | x | x
    · simp [mkA1] at hx2; subst hx2; exact h _ hx
    · simp [mkA1] at hx2
      rcases hx2 with rfl | rfl
      · exact h _ hx
      · trivial
    · simp [mkA1] at hx2; subst hx2; exact h _ hx
  · have := List.eq_of_mem_replicate hv
    subst this
    trivial
section SZ
variable {ad : Nat → Nat} {cA dC : Nat → ClassId} {dI : Nat → Nat → Nat} {n0 x0 : Nat → Int} {Sx : State → Prop}
/-- the facts of strings go over to a state that is alike, whose foreign cells are the same -/
def SxMv (ad : Nat → Nat) (Sx : State → Prop) : Prop := ∀ s U : State, s.vm.Alike U.vm → (∀ q : Nat, q < s.heap.size → ¬ ShA ad q → U.heap[q]? = s.heap[q]?) → Sx s → Sx U
theorem ShK.warm {s U : State} (hW : s.WarmedH U.vm) (h : ShK cA dC dI s) : ShK cA dC dI U :=
  ⟨va_K.moved hW.alike h.1, fun k hk h1 => ⟨arrOfT_moved hW.alike (h.2.1 k hk h1).1, (h.2.1 k hk h1).2.moved hW.alike⟩, fun w hw => nestW_warm hw hW (h.2.2 w hw)⟩
theorem ShK.same {s U : State} (hv : s.vm = U.vm) (h : ShK cA dC dI s) : ShK cA dC dI U := by
  have ha : s.vm.Alike U.vm := hv ▸ Vm.Alike.refl s.vm
  exact ⟨va_K.moved ha h.1, fun k hk h1 => ⟨arrOfT_moved ha (h.2.1 k hk h1).1, (h.2.1 k hk h1).2.moved ha⟩, fun w hw => va_Nw.same (nestW_tab hw) hv (h.2.2 w hw)⟩
theorem ShF.warm (hSx : SxMv ad Sx) {s U : State} (hW : s.WarmedH U.vm) (hz : s.heap.size ≤ U.heap.size) (hq : ∀ q : Nat, q < s.heap.size → ¬ ShA ad q → U.heap[q]? = s.heap[q]?) (h : ShF ad n0 x0 Sx s) : ShF ad n0 x0 Sx U := by
  obtain ⟨h1, h2, h3, h4, h5, h6, h7⟩ := h
  exact ⟨(h1.kept hq).moved hW.alike, (h2.kept hq).moved hW.alike, va_X.moved hW.alike (h3.kept (hq _ h4 h5)), Nat.lt_of_lt_of_le h4 hz, h5, fun q hq => vk_R.warm hW (h6 q hq), hSx s U hW.alike hq h7⟩
theorem ShF.same (hSx : SxMv ad Sx) {s U : State} (hv : s.vm = U.vm) (hh : U.heap = s.heap) (h : ShF ad n0 x0 Sx s) : ShF ad n0 x0 Sx U := by
  have ha : s.vm.Alike U.vm := hv ▸ Vm.Alike.refl s.vm
  obtain ⟨h1, h2, h3, h4, h5, h6, h7⟩ := h
  refine ⟨?_, ?_, ?_, by rw [hh]; exact h4, h5, fun q hq => vk_R.same hv.symm (h6 q hq), hSx s U ha (fun q _ _ => by rw [hh]) h7⟩
  · rw [hh]; exact h1.moved ha
  · rw [hh]; exact h2.moved ha
  · rw [hh]; exact va_X.moved ha h3
def ShPc (ad : Nat → Nat) (cA dC : Nat → ClassId) (dI : Nat → Nat → Nat) (n0 x0 : Nat → Int) (Sx : State → Prop) (a : List SV) (g : Hp) : Array Value → State → Prop := va_Pc (a.map (rv ad)) (fun U => ShK cA dC dI U ∧ ShF ad n0 x0 Sx U ∧ va_P (dC, dI) vwCl (wl ad cA g) U.heap)
def ShQc (ad : Nat → Nat) (cA dC : Nat → ClassId) (dI : Nat → Nat → Nat) (r : Option SV) (g' : Hp) : Array Value → State → Outcome → State → Prop := fun _ st o t => o = .returned (r.map (rv ad)) ∧ va_P (dC, dI) vwCl (wl ad cA g') t.heap ∧ va_F (ShA ad) st t
theorem ShPc.blind (hSx : SxMv ad Sx) {a : List SV} {g : Hp} : FrameBlind (ShPc ad cA dC dI n0 x0 Sx a g) := fun _ U _ _ h => ⟨h.1, ShK.same (s := U) rfl h.2.1, ShF.same hSx (s := U) rfl rfl h.2.2.1, h.2.2.2⟩
abbrev shRm (d : Nat) : Room := { frames := d, cells := 0, slots := 0, locals := 40 * d }
def shWs (q : MI) : List Cond := .code q.2.2.2.2.1 q.2.2.2.1 q.2.1 q.2.2.2.2.2 :: lw_good
def RetAt (q : MI) (pc : Nat) (r : Option SV) : Prop := ∃ ins len, decode q.2.2.2.1 pc = .ok (ins, len) ∧ lnOk ins len = true ∧ rx q.2.2.2.2.2 r.toList ins = some r
/-- what is claimed of n steps -/
def SndAt (ad : Nat → Nat) (cA dC : Nat → ClassId) (dI : Nat → Nat → Nat) (n0 x0 : Nat → Int) (Sx : State → Prop) (n : Nat) : Prop := ∀ (d : Nat) (q : MI) (pc : Nat) (ls st : List SV) (g : Hp) (r : Option SV) (g' : Hp), shRun n d q pc ls st g = some (r, g') →
  ∀ (p : Program) (l : Launch) (e : Env) (R : Room) (s : State) (m : MethodId) (args : Array Value) (below : List Frame) (meth : Method) (c : Code) (H : Heap) (locs : List Loc) (cells slots : Nat) (Q : State → Prop) (ra : Array Slot),
  FrC p R s m args c q d cells slots → ShK cA dC dI s → ShF ad n0 x0 Sx s → va_P (dC, dI) vwCl (wl ad cA g) H → okH g → g 210 = n0 → g 220 = x0 → va_S (ShA ad) s.heap H locs → lv_has ra q.2.1 (lvl ad ls) → ls.length = q.2.1 → (∀ v ∈ ls, okV v) → (∀ v ∈ st, okV v) →
  (∀ (pc' : Nat) (H' : Heap) (locs' : List Loc) (ra' : Array Slot), RetAt q pc' r → va_P (dC, dI) vwCl (wl ad cA g') H' → okH g' → g' 210 = n0 → g' 220 = x0 → va_S (ShA ad) s.heap H' locs' → (∀ v ∈ r, okV v) → W p l e R s m args below meth c H' locs' cells slots Q (F0 m pc' ra' (r.toList.map (rv ad)))) →
  W p l e R s m args below meth c H locs cells slots Q (F0 m pc ra (st.map (rv ad)))
theorem shWs_good {q : MI} (h : Cond.code q.2.2.2.2.1 q.2.2.2.1 q.2.1 q.2.2.2.2.2 ∈ lw_good) : GoodIn lw_good (shWs q) := by
  intro w hw
  have h1 : w ∈ lw_good := by
    rcases List.mem_cons.mp hw with rfl | hw
    · exact h
    · exact hw
  exact ⟨h1, good_of_word (List.mem_filter.mp h1).2⟩
set_option maxHeartbeats 4000000 in
theorem met_of {n : Nat} (ih : SndAt ad cA dC dI n0 x0 Sx n) {d : Nat} {q : MI} {a : List SV} {g : Hp} {r : Option SV} {g' : Hp} (hrun : shRun n d q 0 (mkL q.2.1 a) [] g = some (r, g')) (hpl : plainFor q.2.2.2.2.1 = true) (hon : oNm q.1 = q.2.2.2.2.1.cls) (hd8 : 8 ≤ d) (hml0 : (mkA a).length ≤ q.2.1) (hg : okH g) (h210 : g 210 = n0) (h220 : g 220 = x0) (ha : ∀ v ∈ a, okV v) (l : Launch) :
    Met l q.2.2.2.2.1 (shWs q) (shRm d) (ShPc ad cA dC dI n0 x0 Sx a g) (ShQc ad cA dC dI r g') 0 0 (ShA ad) := by
  refine va_MetF (cc := q.2.2.2.1) (maxL := q.2.1) (ret := q.2.2.2.2.2) hpl rfl ?_
  intro p e s m args below meth c s₁ B hml hv
  obtain ⟨rfl, hK, hF, hP⟩ := hv
  have hx := B.exec
  have hb := B.bytes
  have hr := B.returns
  have hts := atoms_spec (ws := shWs q) B.pre
  have hown : s.vm.findClass q.2.2.2.2.1.cls = some m.cls := findClass_of_methodNamed B.named
  have hlocks := B.notSynchronized
  have hl := lv_entry (a.map (rv ad)) (n := q.2.1) (by rw [mkA_sl]; exact hml0)
  rw [lg_entry_eq]
  refine ih d q 0 (mkL q.2.1 a) [] g r g' hrun p l e _ s m _ below meth c s.heap [] 0 0 _ _ ⟨hx, hb, hml, by rw [hon]; exact hown, fun w hw => hts w (List.mem_cons_of_mem _ hw), ⟨hd8, Nat.le_refl _⟩, Nat.le_refl _, Nat.le_refl _, Nat.le_refl _⟩ hK hF hP hg h210 h220 va_S.rf (lv_less hl (mkL_lvl ad q.2.1 a)) (mkL_len hml0) (mkL_ok ha) (fun v hv => absurd hv List.not_mem_nil) ?_
  intro pc' H' locs' ra' hret hP' hg' _ _ hS' hrok
  obtain ⟨ins, len, hd, hln, hrx⟩ := hret
  cases ins with
  | return_ =>
    have e1 : len = 1 := eq_of_beq (show (len == 1) = true from hln)
    subst e1
    simp only [rx] at hrx
    split at hrx
    · rename_i hc
      cases hrx
      exact W.vret hx hb (by rw [hr]; exact hc.1) (fun t ht hW => ⟨rfl, by rw [ht]; exact hP', hS'.F ht⟩) hS'.2.2 hd
    · cases hrx
  | ireturn =>
    have e1 : len = 1 := eq_of_beq (show (len == 1) = true from hln)
    subst e1
    simp only [rx] at hrx
    split at hrx
    · rename_i x hst
      split at hrx
      · rename_i hc
        cases hrx
        rcases hc with hc | ⟨hc, hc2⟩
        · exact W.zret (ty := .int) hx hb (by rw [hr]; exact hc) rfl (fun t ht hW => ⟨rfl, by rw [ht]; exact hP', hS'.F ht⟩) hS'.2.2 hd
        · exact W.zret (ty := .boolean) hx hb (by rw [hr]; exact hc) (by rcases hc2 with rfl | rfl <;> decide) (fun t ht hW => ⟨rfl, by rw [ht]; exact hP', hS'.F ht⟩) hS'.2.2 hd
      · cases hrx
    · cases hrx
  | lreturn =>
    have e1 : len = 1 := eq_of_beq (show (len == 1) = true from hln)
    subst e1
    simp only [rx] at hrx
    split at hrx
    · rename_i x hst
      split at hrx
      · rename_i hc
        cases hrx
        exact W.lret hx hb (by rw [hr]; exact hc) (fun t ht hW => ⟨rfl, by rw [ht]; exact hP', hS'.F ht⟩) hS'.2.2 hd
      · cases hrx
    · cases hrx
  | _ => simp [rx] at hrx
theorem call_go {p : Program} {l : Launch} {e : Env} {R : Room} {s : State} {m : MethodId} {args : Array Value} {below : List Frame} {meth : Method} {c : Code} {H : Heap} {locs : List Loc} {cells slots : Nat} {Q : State → Prop} {pc : Nat} {ra : Array Slot} {st0 rest : List Value} {aa : Array Value} {r : Option SV} {g' : Hp}
    (hr : va_Run p l e R s m args below meth c H locs cells slots 0 0 (F0 m pc ra st0) rest (ShQc ad cA dC dI r g' aa) (ShA ad)) (hS : va_S (ShA ad) s.heap H locs)
    (kk : ∀ (H1 : Heap) (locs1 : List Loc), va_P (dC, dI) vwCl (wl ad cA g') H1 → va_S (ShA ad) s.heap H1 locs1 → W p l e R s m args below meth c H1 locs1 cells slots Q (F0 m (pc + 3) ra ((r.map (rv ad)).toList ++ rest))) : W p l e R s m args below meth c H locs cells slots Q (F0 m pc ra st0) := by
  intro T hT X
  obtain ⟨v, st₀, t, T', L, h0, X', hL, e1, e2, ⟨hv, hP1, hz, hk⟩, st⟩ := hr T hT X
  cases hv
  rw [h0] at hz hk
  obtain ⟨t2, a1, b1⟩ := kk T'.heap (locs ++ L) (by rw [e1]; exact hP1) ⟨Nat.le_trans hS.1 (by rw [e1]; exact hz), fun q h1 h2 => by rw [e1, hk q (Nat.lt_of_lt_of_le h1 hS.1) h2]; exact hS.2.1 q h1 h2, fun q hq => by
      rcases List.mem_append.mp hq with h | h
      · exact hS.2.2 q h
      · exact hL q h⟩ T' rfl X'
  exact ⟨t2, st t2 a1, b1⟩
end SZ
end
section
section SW
variable {ad : Nat → Nat} {cA dC : Nat → ClassId} {dI : Nat → Nat → Nat} {n0 x0 : Nat → Int} {Sx : State → Prop}
theorem cGo_spec {d : Nat} {q q' : MI} {a r a' r' : List SV} {d' : Nat} (h : cGo d q a r = some (q', d', a', r')) : q' = q ∧ a' = a ∧ r' = r ∧ d' = rkA q a ∧ (8 ≤ d' ∧ d' < d) ∧ (mkA a).length ≤ q.2.1 ∧ (r.map cat).sum ≤ 8 := by
  unfold cGo at h
  split at h
  · rename_i hc
    cases h
    exact ⟨rfl, rfl, rfl, rfl, hc.1, hc.2.1, hc.2.2⟩
  · cases h
theorem stk_take (ad : Nat → Nat) (st : List SV) (n : Nat) : st.map (rv ad) = ((st.take n).reverse.map (rv ad)).reverse ++ (st.drop n).map (rv ad) := by
  rw [← List.map_reverse, List.reverse_reverse, ← List.map_append, List.take_append_drop]
theorem stk_recv (ad : Nat → Nat) {st : List SV} {n a : Nat} (h : st[n]? = some (.inr (.inr (.inl a)))) : st.map (rv ad) = ((st.take n).reverse.map (rv ad)).reverse ++ .ref (ad a) :: (st.drop (n + 1)).map (rv ad) := by
  rw [← List.map_reverse, List.reverse_reverse]
  have hl := (List.getElem?_eq_some_iff.mp h).1
  have he := (List.getElem?_eq_some_iff.mp h).2
  have : st = st.take n ++ (.inr (.inr (.inl a)) :: st.drop (n + 1)) := by
    rw [← he, ← List.drop_eq_getElem_cons hl, List.take_append_drop]
  conv => lhs; rw [this]
  rw [List.map_append]
  rfl
theorem plain_kind {C : Nat} (h : C < 13) : ∃ T N, vwCl[C]? = some ((clN C).1, T, N) := ⟨(clN C).2.1, (clN C).2.2, clN_get h⟩
set_option maxHeartbeats 8000000 in
theorem snd_call (hinj : ∀ i j, i < cNum → j < cNum → ad i = ad j → i = j) (hSx : SxMv ad Sx) {n : Nat} (ih : SndAt ad cA dC dI n0 x0 Sx n) {d : Nat} {q : MI} {pc : Nat} {st : List SV} {g : Hp} {ins : ClassFile.Instr} {len : Nat} {q' : MI} {d' : Nat} {a rest : List SV} {r : Option SV} {g' : Hp}
    (hcx : cx d q.1 st ins = some (q', d', a, rest)) (hrun : shRun n d' q' 0 (mkL q'.2.1 a) [] g = some (r, g')) {p : Program} {l : Launch} {e : Env} {R : Room} {s : State} {m : MethodId} {args : Array Value} {below : List Frame} {meth : Method} {c : Code} {H : Heap} {locs : List Loc} {cells slots : Nat} {Q : State → Prop} {ra : Array Slot}
    (hF : FrC p R s m args c q d cells slots) (hK : ShK cA dC dI s) (hZ : ShF ad n0 x0 Sx s) (hP : va_P (dC, dI) vwCl (wl ad cA g) H) (hg : okH g) (h210 : g 210 = n0) (h220 : g 220 = x0) (hS : va_S (ShA ad) s.heap H locs) (hl : ra.size = q.2.1) (hst : ∀ v ∈ st, okV v) (hd : decode q.2.2.2.1 pc = .ok (ins, len)) (hln : lnOk ins len = true)
    (kk : ∀ (H1 : Heap) (locs1 : List Loc), va_P (dC, dI) vwCl (wl ad cA g') H1 → va_S (ShA ad) s.heap H1 locs1 → W p l e R s m args below meth c H1 locs1 cells slots Q (F0 m (pc + 3) ra ((r.map (rv ad)).toList ++ rest.map (rv ad)))) : W p l e R s m args below meth c H locs cells slots Q (F0 m pc ra (st.map (rv ad))) := by
  obtain ⟨hx, hb, hml, hown, hts, hfr, hlo, hce, hsl⟩ := hF
  have hCF : CallFix p m c q.2.2.2.1 q.2.1 s args lw_good (oNm q.1) := ⟨hx, hb, hml, hown, hts⟩
  have hpre : ∀ As : List SV, ∀ U : State, U.heap = H → s.WarmedH U.vm → ShPc ad cA dC dI n0 x0 Sx As g (As.map (rv ad)).toArray U := fun As U hU hW => ⟨rfl, ShK.warm hW hK, ShF.warm hSx hW (by rw [hU]; exact hS.1) (fun q h1 h2 => by rw [hU]; exact hS.2.1 q h1 h2) hZ, by rw [hU]; exact hP⟩
  have hroom : ∀ (mx : Nat), mx ≤ 20 → d' < d → (shRm d').frames + 1 ≤ R.frames ∧ 8 + (mx + 11) + (shRm d').locals ≤ R.locals := fun mx h1 h2 => ⟨by show d' + 1 ≤ R.frames; omega, by show 8 + (mx + 11) + 40 * d' ≤ R.locals; omega⟩
  cases ins with
  | invokestatic k =>
    have e1 : len = 3 := eq_of_beq (show (len == 3) = true from hln)
    subst e1
    simp only [cx] at hcx
    split at hcx
    · rename_i kd nn hct
      split at hcx
      · rename_i hkd
        split at hcx
        · rename_i kd' n' q0 hst'
          split at hcx
          · rename_i hc
            obtain ⟨⟨rfl, rfl⟩, hlen⟩ := hc
            obtain ⟨rfl, rfl, rfl, rfl, hd8, hml0, hsum⟩ := cGo_spec hcx
            obtain ⟨f1, f2, f3, f4, f5, f6, f7, f8, f9, f10, f11⟩ := sTab_facts hst'
            have haok : ∀ v ∈ (st.take n').reverse, okV v := fun v hv => hst v (List.mem_of_mem_take (List.mem_reverse.mp hv))
            have hM := met_of ih hrun f5 f4 hd8.1 hml0 hg h210 h220 haok l
            have hn : ((st.take n').reverse.map (rv ad)).length = n' := by simp; omega
            rw [stk_take ad st n']
            rcases hkd with rfl | rfl
            · have w1 : Cond.methodLink (oNm q.1) k q'.2.2.2.2.1 ∈ lw_good := f1 _ (by simp [cWs])
              have w2 : Cond.static q'.2.2.2.2.1 ∈ lw_good := f1 _ (by simp [cWs])
              have w3 : Cond.initialized q'.2.2.2.2.1.cls ∈ lw_good := f1 _ (by simp [cWs])
              have w4 : Cond.code q'.2.2.2.2.1 q'.2.2.2.1 q'.2.1 q'.2.2.2.2.2 ∈ lw_good := f1 _ (by simp [cWs])
              have g1 := hts _ w1
              have g2 := hts _ w2
              have g3 := hts _ w3
              have hcb := callB_of (R := R) n' hts (shWs_good w4) rfl (rm := shRm (rkA q' (st.take n').reverse)) rfl rfl g3 g1 ⟨f2.1, f2.2, f3⟩ (hroom _ f6 hd8.2)
              exact call_go (va_runS hCF hM ⟨hcb, g2⟩ ⟨ShPc.blind hSx, hpre _⟩ rfl hn hl rfl (lv_room (by rw [rv_sum]; exact hsum)) hd ⟨hce, hsl⟩) hS kk
            · have w2 : Cond.static q'.2.2.2.2.1 ∈ lw_good := f1 _ (by simp [cWs])
              have w3 : Cond.initialized q'.2.2.2.2.1.cls ∈ lw_good := f1 _ (by simp [cWs])
              have w4 : Cond.code q'.2.2.2.2.1 q'.2.2.2.1 q'.2.1 q'.2.2.2.2.2 ∈ lw_good := f1 _ (by simp [cWs])
              have g2 := hts _ w2
              have g3 := hts _ w3
              have hnl := hK.2.2 _ (f10 rfl)
              have hcb := va_cnB (R := R) (args := args) n' hts (shWs_good w4) rfl (rm := shRm (rkA q' (st.take n').reverse)) rfl rfl hnl g3 ⟨f2.1, f2.2, f3⟩ (hroom _ f6 hd8.2)
              exact call_go (va_runSN hCF hM ⟨hcb, g2, trivial⟩ ⟨ShPc.blind hSx, hpre _⟩ rfl hn hl rfl (lv_room (by rw [rv_sum]; exact hsum)) hd ⟨hce, hsl⟩) hS kk
          · cases hcx
        · cases hcx
      · cases hcx
    · cases hcx
  | invokevirtual k =>
    have e1 : len = 3 := eq_of_beq (show (len == 3) = true from hln)
    subst e1
    simp only [cx] at hcx
    split at hcx
    · rename_i kd nn hct
      split at hcx
      · rename_i hkd
        split at hcx
        · rename_i b hrec
          split at hcx
          · rename_i kd' n' q0 hst'
            split at hcx
            · rename_i hc
              obtain ⟨rfl, rfl⟩ := hc
              obtain ⟨rfl, rfl, rfl, rfl, hd8, hml0, hsum⟩ := cGo_spec hcx
              obtain ⟨f1, f2, f3, f4, f5, f6, f7, f8, f9, f10, f11⟩ := sTab_facts hst'
              have haok : ∀ v ∈ (Sum.inr (Sum.inr (Sum.inl b)) : SV) :: (st.take n').reverse, okV v := ok_c trivial (fun v hv => hst v (List.mem_of_mem_take (List.mem_reverse.mp hv)))
              have hM := met_of ih hrun f5 f4 hd8.1 hml0 hg h210 h220 haok l
              have hlen := (List.getElem?_eq_some_iff.mp hrec).1
              have hn : ((st.take n').reverse.map (rv ad)).length = n' := by simp; omega
              rw [stk_recv ad hrec]
              rcases hkd with rfl | rfl
              · obtain ⟨f8a, f8b, f8c⟩ := f8 rfl
                have hbc : b < cNum := cK_lt (by omega)
                have hrv : ∃ cellB : Cell, H[ad b]? = some cellB ∧ cellB.vm.isStatics = false ∧ s.vm.findClass (oNm (cK b)) = some cellB.cls := by
                  have := va_recv hK.1 hP (q0 := b) (ci := cK b) (clN_get f8b) (by rw [wl_get ad cA g hbc, ent_o rfl f8b])
                  rw [f8c]
                  exact this
                have w1 : Cond.methodLink (oNm q.1) k q'.2.2.2.2.1 ∈ lw_good := f1 _ (by simp [cWs])
                have w2 : Cond.instanceMethod q'.2.2.2.2.1 ∈ lw_good := f1 _ (by simp [cWs])
                have w2b : Cond.selects (oNm (cK b)) q'.2.2.2.2.1 q'.2.2.2.2.1 ∈ lw_good := f1 _ (by simp [cWs])
                have w3 : Cond.initialized q'.2.2.2.2.1.cls ∈ lw_good := f1 _ (by simp [cWs])
                have w4 : Cond.code q'.2.2.2.2.1 q'.2.2.2.1 q'.2.1 q'.2.2.2.2.2 ∈ lw_good := f1 _ (by simp [cWs])
                have g1 := hts _ w1
                have g2 := hts _ w2
                have g2b := hts _ w2b
                have g3 := hts _ w3
                have hcb := callB_of (R := R) n' hts (shWs_good w4) rfl (rm := shRm (rkA q' (.inr (.inr (.inl b)) :: (st.take n').reverse))) rfl rfl g3 g1 ⟨f2.1, f2.2, f3⟩ (hroom _ f6 hd8.2)
                exact call_go (va_runV (C := oNm (cK b)) hCF hM ⟨hcb, g2, g2b⟩ ⟨ShPc.blind hSx, hrv, hpre (.inr (.inr (.inl b)) :: (st.take n').reverse)⟩ rfl hn hl rfl (lv_room (by rw [rv_sum]; exact hsum)) hd ⟨hce, hsl⟩) hS kk
              · obtain ⟨f9b, f9c⟩ := f9 rfl
                have hbc : b < cNum := cK_lt (by omega)
                have hrv : ∃ cellB : Cell, H[ad b]? = some cellB ∧ cellB.vm.isStatics = false ∧ s.vm.findClass (oNm (cK b)) = some cellB.cls := by
                  have := va_recv hK.1 hP (q0 := b) (ci := cK b) (clN_get f9b) (by rw [wl_get ad cA g hbc, ent_o rfl f9b])
                  rw [f9c]
                  exact this
                have w1 : Cond.methodLink (oNm q.1) k (xNm q'.2.2.2.2.1) ∈ lw_good := f1 _ (by simp [cWs])
                have w1b : Cond.sameMethod RX7 RX7 q'.2.2.2.2.1.name q'.2.2.2.2.1.desc ∈ lw_good := f1 _ (by simp [cWs])
                have w1c : Cond.instanceMethod (xNm q'.2.2.2.2.1) ∈ lw_good := f1 _ (by simp [cWs])
                have w2 : Cond.instanceMethod q'.2.2.2.2.1 ∈ lw_good := f1 _ (by simp [cWs])
                have w2b : Cond.selects (oNm (cK b)) (xNm q'.2.2.2.2.1) q'.2.2.2.2.1 ∈ lw_good := f1 _ (by simp [cWs])
                have w3 : Cond.initialized q'.2.2.2.2.1.cls ∈ lw_good := f1 _ (by simp [cWs])
                have w4 : Cond.code q'.2.2.2.2.1 q'.2.2.2.1 q'.2.1 q'.2.2.2.2.2 ∈ lw_good := f1 _ (by simp [cWs])
                have w5 : xCd q'.2.2.2.2.1 ∈ lw_good := f1 _ (by simp [cWs])
                have g1 := hts _ w1
                have g1b := hts _ w1b
                have g1c := hts _ w1c
                have g2 := hts _ w2
                have g2b := hts _ w2b
                have g3 := hts _ w3
                have g4 := hts _ w4
                have g5 := hts _ w5
                have hdec : va_Decl s (xNm q'.2.2.2.2.1) := by
                  unfold xCd at g5
                  split at g5
                  · exact va_Decl.of g1c g5
                  · split at g5
                    · exact va_Decl.of g1c g5
                    · exact va_Decl.of g1c g5
                have hG := shWs_good w4
                have hrm := hroom _ f6 hd8.2
                have hcu : va_CU R s args (oNm q.1) (oNm (cK b)) RX7 k (xNm q'.2.2.2.2.1) q'.2.2.2.2.1 q'.2.2.2.1 q'.2.1 q'.2.2.2.2.2 (shWs q') (shRm (rkA q' (.inr (.inr (.inl b)) :: (st.take n').reverse))) 0 0 n' := by
                  refine ⟨⟨rfl, rfl, hrm.1, hrm.2, pay_in hts hG, List.mem_cons_self⟩, g4, g3, ⟨by decide, by decide⟩, fun sig h => ?_, g1, g1b, hdec, g2b, g2⟩
                  have h2 := f3
                  have h3 : parseMethodDescriptor q'.2.2.2.2.1.desc = some sig := h
                  rw [h3] at h2
                  exact (Option.some.inj h2).symm
                exact call_go (va_runU (C := oNm (cK b)) hCF hM hcu ⟨ShPc.blind hSx, hrv, hpre (.inr (.inr (.inl b)) :: (st.take n').reverse)⟩ rfl hn hl rfl (lv_room (by rw [rv_sum]; exact hsum)) hd ⟨hce, hsl⟩) hS kk
            · cases hcx
          · cases hcx
        · cases hcx
      · cases hcx
    · cases hcx
  | invokespecial k =>
    have e1 : len = 3 := eq_of_beq (show (len == 3) = true from hln)
    subst e1
    simp only [cx] at hcx
    split at hcx
    · rename_i kd nn hct
      split at hcx
      · rename_i hkd
        subst hkd
        split at hcx
        · rename_i b hrec
          split at hcx
          · rename_i kd' n' q0 hst'
            split at hcx
            · rename_i hc
              obtain ⟨⟨rfl, rfl⟩, hbo⟩ := hc
              obtain ⟨rfl, rfl, rfl, rfl, hd8, hml0, hsum⟩ := cGo_spec hcx
              obtain ⟨f1, f2, f3, f4, f5, f6, f7, f8, f9, f10, f11⟩ := sTab_facts hst'
              obtain ⟨f11b, f11c⟩ := f11 rfl
              have haok : ∀ v ∈ (Sum.inr (Sum.inr (Sum.inl b)) : SV) :: (st.take n').reverse, okV v := ok_c trivial (fun v hv => hst v (List.mem_of_mem_take (List.mem_reverse.mp hv)))
              have hM := met_of ih hrun f5 f4 hd8.1 hml0 hg h210 h220 haok l
              have hlen := (List.getElem?_eq_some_iff.mp hrec).1
              have hn : ((st.take n').reverse.map (rv ad)).length = n' := by simp; omega
              rw [stk_recv ad hrec]
              have hbc : b < cNum := cK_lt (by omega)
              have hrv : ∃ cellB : Cell, H[ad b]? = some cellB ∧ cellB.vm.isStatics = false ∧ s.vm.findClass (clN q.1).1 = some cellB.cls :=
                va_recv hK.1 hP (q0 := b) (ci := q.1) (clN_get f11b) (by rw [wl_get ad cA g hbc, ent_o hbo f11b])
              have w1 : Cond.methodLink (oNm q.1) k q'.2.2.2.2.1 ∈ lw_good := f1 _ (by simp [cWs])
              have w1b : Cond.sameMethod q'.2.2.2.2.1.cls q'.2.2.2.2.1.cls q'.2.2.2.2.1.name q'.2.2.2.2.1.desc ∈ lw_good := f1 _ (by simp [cWs])
              have w1c : Cond.superclass (oNm q.1) q'.2.2.2.2.1.cls ∈ lw_good := f1 _ (by simp [cWs])
              have w2 : Cond.instanceMethod q'.2.2.2.2.1 ∈ lw_good := f1 _ (by simp [cWs])
              have w3 : Cond.initialized q'.2.2.2.2.1.cls ∈ lw_good := f1 _ (by simp [cWs])
              have w4 : Cond.code q'.2.2.2.2.1 q'.2.2.2.1 q'.2.1 q'.2.2.2.2.2 ∈ lw_good := f1 _ (by simp [cWs])
              have g1 := hts _ w1
              have g1b := hts _ w1b
              have g1c := hts _ w1c
              have g2 := hts _ w2
              have g3 := hts _ w3
              have g4 := hts _ w4
              have hG := shWs_good w4
              have hrm := hroom _ f6 hd8.2
              have hcs : va_CS R s args (oNm q.1) k q'.2.2.2.2.1 q'.2.2.2.1 q'.2.1 q'.2.2.2.2.2 (shWs q') (shRm (rkA q' (.inr (.inr (.inl b)) :: (st.take n').reverse))) 0 0 n' := by
                refine ⟨⟨rfl, rfl, hrm.1, hrm.2, pay_in hts hG, List.mem_cons_self⟩, g1, g1b, g1c, g2, g3, g4, f7, fun sig h => ?_⟩
                have h2 := f3
                rw [h] at h2
                exact (Option.some.inj h2).symm
              have hat : ClassAt s (clN q.1).1 (dC q.1) := (hK.1.1 q.1 _ (clN_get f11b)).2
              exact call_go (va_runSU (C := (clN q.1).1) hat hCF hM hcs ⟨ShPc.blind hSx, hrv, hpre (.inr (.inr (.inl b)) :: (st.take n').reverse)⟩ rfl hn hl rfl (lv_room (by rw [rv_sum]; exact hsum)) hd ⟨hce, hsl⟩) hS kk
            · cases hcx
          · cases hcx
        · cases hcx
      · cases hcx
    · cases hcx
  | _ => simp [cx] at hcx
theorem rx_st {ret : Option FieldType} {st : List SV} {ins : ClassFile.Instr} {r : Option SV} (h : rx ret st ins = some r) : st = r.toList := by
  cases ins with
  | return_ =>
    simp only [rx] at h
    split at h
    · rename_i hc; cases h; exact hc.2
    · cases h
  | ireturn =>
    simp only [rx] at h
    split at h
    · split at h
      · cases h; rfl
      · cases h
    · cases h
  | lreturn =>
    simp only [rx] at h
    split at h
    · split at h
      · cases h; rfl
      · cases h
    · cases h
  | _ => simp [rx] at h
/-- what a run keeps, in numbers -/
theorem run_ok : ∀ (n : Nat) (d : Nat) (q : MI) (pc : Nat) (ls st : List SV) (g : Hp) (r : Option SV) (g' : Hp), shRun n d q pc ls st g = some (r, g') → okH g → (∀ v ∈ ls, okV v) → (∀ v ∈ st, okV v) → okH g' ∧ (∀ v ∈ r, okV v) ∧ ∀ b, cNum ≤ b → g' b = g b := by
  intro n
  induction n with
  | zero => intro d q pc ls st g r g' h; simp [shRun] at h
  | succ n ih =>
    intro d q pc ls st g r g' h hg hls hst
    cases hd : decode q.2.2.2.1 pc with
    | error x => rw [shRun, hd] at h; cases h
    | ok z =>
      obtain ⟨ins, len⟩ := z
      by_cases hln : lnOk ins len = true
      · rw [shRun_succ _ _ _ _ _ _ _ hd hln] at h
        cases hr : rx q.2.2.2.2.2 st ins with
        | some v =>
          rw [hr] at h
          cases h
          refine ⟨hg, fun v hv => hst v ?_, fun _ _ => rfl⟩
          rw [rx_st hr]
          exact Option.mem_toList.mpr hv
        | none =>
          rw [hr] at h
          simp only at h
          cases hc : cx d q.1 st ins with
          | some z =>
            obtain ⟨q', d', a, rest⟩ := z
            rw [hc] at h
            simp only at h
            have hao : (∀ v ∈ a, okV v) ∧ ∀ v ∈ rest, okV v := by
              cases ins with
              | invokestatic k =>
                simp only [cx] at hc
                split at hc
                · split at hc
                  · split at hc
                    · split at hc
                      · obtain ⟨-, rfl, rfl, -⟩ := cGo_spec hc
                        exact ⟨fun v hv => hst v (List.mem_of_mem_take (List.mem_reverse.mp hv)), fun v hv => hst v (List.mem_of_mem_drop hv)⟩
                      · cases hc
                    · cases hc
                  · cases hc
                · cases hc
              | invokevirtual k =>
                simp only [cx] at hc
                split at hc
                · split at hc
                  · split at hc
                    · split at hc
                      · split at hc
                        · obtain ⟨-, rfl, rfl, -⟩ := cGo_spec hc
                          exact ⟨ok_c trivial (fun v hv => hst v (List.mem_of_mem_take (List.mem_reverse.mp hv))), fun v hv => hst v (List.mem_of_mem_drop hv)⟩
                        · cases hc
                      · cases hc
                    · cases hc
                  · cases hc
                · cases hc
              | invokespecial k =>
                simp only [cx] at hc
                split at hc
                · split at hc
                  · split at hc
                    · split at hc
                      · split at hc
                        · obtain ⟨-, rfl, rfl, -⟩ := cGo_spec hc
                          exact ⟨ok_c trivial (fun v hv => hst v (List.mem_of_mem_take (List.mem_reverse.mp hv))), fun v hv => hst v (List.mem_of_mem_drop hv)⟩
                        · cases hc
                      · cases hc
                    · cases hc
                  · cases hc
                · cases hc
              | _ => simp [cx] at hc
            cases h1 : shRun n d' q' 0 (mkL q'.2.1 a) [] g with
            | none => rw [h1] at h; cases h
            | some z1 =>
              obtain ⟨r1, g1⟩ := z1
              rw [h1, Option.bind_some] at h
              obtain ⟨k1, k2, k3⟩ := ih _ _ _ _ _ _ _ _ h1 hg (mkL_ok hao.1) (fun v hv => absurd hv List.not_mem_nil)
              obtain ⟨j1, j2, j3⟩ := ih _ _ _ _ _ _ _ _ h k1 hls (fun v hv => (List.mem_append.mp hv).elim (fun hv => k2 v (Option.mem_toList.mp hv)) (hao.2 v))
              exact ⟨j1, j2, fun b hb => (j3 b hb).trans (k3 b hb)⟩
          | none =>
            rw [hc] at h
            simp only at h
            cases h1 : sx q.1 pc ls st g ins with
            | none => rw [h1] at h; cases h
            | some z1 =>
              obtain ⟨pc1, ls1, st1, g1⟩ := z1
              rw [h1, Option.bind_some] at h
              obtain ⟨k1, k2, k3, k4, k5⟩ := sx_ok h1 hg hls hst
              obtain ⟨j1, j2, j3⟩ := ih _ _ _ _ _ _ _ _ h k1 k2 k3
              exact ⟨j1, j2, fun b hb => (j3 b hb).trans (k5 b hb)⟩
      · rw [shRun, hd] at h
        simp only [hln] at h
        cases h
set_option maxHeartbeats 4000000 in
/-- THE SHADOW IS SOUND -/
theorem snd (hinj : ∀ i j, i < cNum → j < cNum → ad i = ad j → i = j) (hSx : SxMv ad Sx) (hSL : StrLen ad Sx) (hSA : StrAt ad Sx) : ∀ n, SndAt ad cA dC dI n0 x0 Sx n := by
  intro n
  induction n with
  | zero => intro d q pc ls st g r g' h; simp [shRun] at h
  | succ n ih =>
    intro d q pc ls st g r g' h p l e R s m args below meth c H locs cells slots Q ra hF hK hZ hP hg h210 h220 hS hl hll hls hst K
    cases hd : decode q.2.2.2.1 pc with
    | error x => rw [shRun, hd] at h; cases h
    | ok z =>
      obtain ⟨ins, len⟩ := z
      by_cases hln : lnOk ins len = true
      · have hall := h
        rw [shRun_succ _ _ _ _ _ _ _ hd hln] at h
        cases hr : rx q.2.2.2.2.2 st ins with
        | some v =>
          rw [hr] at h
          cases h
          have hst2 := rx_st hr
          subst hst2
          exact K pc H locs ra ⟨ins, len, hd, hln, hr⟩ hP hg h210 h220 hS (fun v hv => hst v (Option.mem_toList.mpr hv))
        | none =>
          rw [hr] at h
          simp only at h
          cases hc : cx d q.1 st ins with
          | some z =>
            obtain ⟨q', d', a, rest⟩ := z
            rw [hc] at h
            simp only at h
            cases h1 : shRun n d' q' 0 (mkL q'.2.1 a) [] g with
            | none => rw [h1] at h; cases h
            | some z1 =>
              obtain ⟨r1, g1⟩ := z1
              rw [h1, Option.bind_some] at h
              refine snd_call hinj hSx ih hc h1 hF hK hZ hP hg h210 h220 hS hl.1 hst hd hln (fun H1 locs1 hP1 hS1 => ?_)
              have hok : okH g1 ∧ (∀ v ∈ (r1.toList ++ rest), okV v) ∧ ∀ b, cNum ≤ b → g1 b = g b := by
                have hao : (∀ v ∈ a, okV v) ∧ ∀ v ∈ rest, okV v := by
                  cases ins with
                  | invokestatic k =>
                    simp only [cx] at hc
                    split at hc
                    · split at hc
                      · split at hc
                        · split at hc
                          · obtain ⟨-, rfl, rfl, -⟩ := cGo_spec hc
                            exact ⟨fun v hv => hst v (List.mem_of_mem_take (List.mem_reverse.mp hv)), fun v hv => hst v (List.mem_of_mem_drop hv)⟩
                          · cases hc
                        · cases hc
                      · cases hc
                    · cases hc
                  | invokevirtual k =>
                    simp only [cx] at hc
                    split at hc
                    · split at hc
                      · split at hc
                        · split at hc
                          · split at hc
                            · obtain ⟨-, rfl, rfl, -⟩ := cGo_spec hc
                              exact ⟨ok_c trivial (fun v hv => hst v (List.mem_of_mem_take (List.mem_reverse.mp hv))), fun v hv => hst v (List.mem_of_mem_drop hv)⟩
                            · cases hc
                          · cases hc
                        · cases hc
                      · cases hc
                    · cases hc
                  | invokespecial k =>
                    simp only [cx] at hc
                    split at hc
                    · split at hc
                      · split at hc
                        · split at hc
                          · split at hc
                            · obtain ⟨-, rfl, rfl, -⟩ := cGo_spec hc
                              exact ⟨ok_c trivial (fun v hv => hst v (List.mem_of_mem_take (List.mem_reverse.mp hv))), fun v hv => hst v (List.mem_of_mem_drop hv)⟩
                            · cases hc
                          · cases hc
                        · cases hc
                      · cases hc
                    · cases hc
                  | _ => simp [cx] at hc
                obtain ⟨k1, k2, k3⟩ := run_ok _ _ _ _ _ _ _ _ _ h1 hg (mkL_ok hao.1) (fun v hv => absurd hv List.not_mem_nil)
                exact ⟨k1, fun v hv => (List.mem_append.mp hv).elim (fun hv => k2 v (Option.mem_toList.mp hv)) (hao.2 v), k3⟩
              have := ih d q (pc + 3) ls (r1.toList ++ rest) g1 r g' h p l e R s m args below meth c H1 locs1 cells slots Q ra hF hK hZ hP1 hok.1 ((hok.2.2 210 (by decide)).trans h210) ((hok.2.2 220 (by decide)).trans h220) hS1 hl hll hls hok.2.1 K
              have e5 : (r1.toList ++ rest).map (rv ad) = (r1.map (rv ad)).toList ++ rest.map (rv ad) := by
                rw [List.map_append]
                congr 1
                cases r1 <;> rfl
              rw [e5] at this
              exact this
          | none =>
            rw [hc] at h
            simp only at h
            cases h1 : sx q.1 pc ls st g ins with
            | none => rw [h1] at h; cases h
            | some z1 =>
              obtain ⟨pc1, ls1, st1, g1⟩ := z1
              rw [h1, Option.bind_some] at h
              obtain ⟨k1, k2, k3, k4, k5⟩ := sx_ok h1 hg hls hst
              refine snd_sx hinj hSL hSA hF hK hZ hP hg h210 h220 hS hl hll hls hst hd hln h1 (fun H1 locs1 ra1 hP1 hS1 hl1 => ?_)
              exact ih d q pc1 ls1 st1 g1 r g' h p l e R s m args below meth c H1 locs1 cells slots Q ra1 hF hK hZ hP1 k1 ((k5 210 (by decide)).trans h210) ((k5 220 (by decide)).trans h220) hS1 hl1 (k4.trans hll) k2 k3 K
      · rw [shRun, hd] at h
        simp only [hln] at h
        cases h
end SW
end
