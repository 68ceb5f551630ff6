section
-- ===== PART A: goes FIRST, ahead of the names: the tables' words, and 'selects' of the private methods out of them =====
/-- a private method of a class that the tables say can be made, by its rows of tables_1 -/
def lw_okq (q : MethodName × Nat) : Prop := (q.1.cls ≠ "java/lang/invoke/MethodHandle" ∧ q.1.cls ≠ "java/lang/invoke/VarHandle") ∧ Cond.instantiable q.1.cls q.2 ∈ tables_1 ∧ Cond.privateMethod q.1 ∈ tables_1 ∧ Cond.instanceMethod q.1 ∈ tables_1
theorem lw_p0 : lw_okq (⟨"ClosedFeuds$Page", "stageBehind", "(III)I"⟩, 4) := ⟨⟨by decide +kernel, by decide +kernel⟩, List.mem_of_getElem? (i := 27) (by decide +kernel), List.mem_of_getElem? (i := 253) (by decide +kernel), List.mem_of_getElem? (i := 254) (by decide +kernel)⟩
theorem lw_p1 : lw_okq (⟨"ClosedFeuds", "isFeud", "(I)Z"⟩, 10) := ⟨⟨by decide +kernel, by decide +kernel⟩, List.mem_of_getElem? (i := 19) (by decide +kernel), List.mem_of_getElem? (i := 322) (by decide +kernel), List.mem_of_getElem? (i := 323) (by decide +kernel)⟩
theorem lw_p2 : lw_okq (⟨"ClosedFeuds", "hasList", "()Z"⟩, 10) := ⟨⟨by decide +kernel, by decide +kernel⟩, List.mem_of_getElem? (i := 19) (by decide +kernel), List.mem_of_getElem? (i := 415) (by decide +kernel), List.mem_of_getElem? (i := 416) (by decide +kernel)⟩
theorem lw_p3 : lw_okq (⟨"ClosedFeuds$Isle", "endLoansOf", "(I)V"⟩, 13) := ⟨⟨by decide +kernel, by decide +kernel⟩, List.mem_of_getElem? (i := 89) (by decide +kernel), List.mem_of_getElem? (i := 509) (by decide +kernel), List.mem_of_getElem? (i := 510) (by decide +kernel)⟩
theorem lw_p4 : lw_okq (⟨"ClosedFeuds$Isle", "inheritorOf", "(I)I"⟩, 13) := ⟨⟨by decide +kernel, by decide +kernel⟩, List.mem_of_getElem? (i := 89) (by decide +kernel), List.mem_of_getElem? (i := 513) (by decide +kernel), List.mem_of_getElem? (i := 514) (by decide +kernel)⟩
theorem lw_p5 : lw_okq (⟨"ClosedFeuds", "costOfFeud", "(III)I"⟩, 10) := ⟨⟨by decide +kernel, by decide +kernel⟩, List.mem_of_getElem? (i := 19) (by decide +kernel), List.mem_of_getElem? (i := 557) (by decide +kernel), List.mem_of_getElem? (i := 558) (by decide +kernel)⟩
theorem lw_p6 : lw_okq (⟨"ClosedFeuds$Matchmaker", "reckonGains", "(LClosedFeuds$Isle;)V"⟩, 4) := ⟨⟨by decide +kernel, by decide +kernel⟩, List.mem_of_getElem? (i := 152) (by decide +kernel), List.mem_of_getElem? (i := 586) (by decide +kernel), List.mem_of_getElem? (i := 587) (by decide +kernel)⟩
theorem lw_p7 : lw_okq (⟨"ClosedFeuds$Matchmaker", "bestOf", "(I)I"⟩, 4) := ⟨⟨by decide +kernel, by decide +kernel⟩, List.mem_of_getElem? (i := 152) (by decide +kernel), List.mem_of_getElem? (i := 594) (by decide +kernel), List.mem_of_getElem? (i := 595) (by decide +kernel)⟩
theorem lw_p8 : lw_okq (⟨"ClosedFeuds$Odds", "addFeud", "(JJ)V"⟩, 2) := ⟨⟨by decide +kernel, by decide +kernel⟩, List.mem_of_getElem? (i := 173) (by decide +kernel), List.mem_of_getElem? (i := 623) (by decide +kernel), List.mem_of_getElem? (i := 624) (by decide +kernel)⟩
theorem lw_p9 : lw_okq (⟨"ClosedFeuds$Odds", "waysOf", "(I)J"⟩, 2) := ⟨⟨by decide +kernel, by decide +kernel⟩, List.mem_of_getElem? (i := 173) (by decide +kernel), List.mem_of_getElem? (i := 631) (by decide +kernel), List.mem_of_getElem? (i := 632) (by decide +kernel)⟩
theorem lw_p10 : lw_okq (⟨"ClosedFeuds$Odds", "inLowest", "(JJ)J"⟩, 2) := ⟨⟨by decide +kernel, by decide +kernel⟩, List.mem_of_getElem? (i := 173) (by decide +kernel), List.mem_of_getElem? (i := 635) (by decide +kernel), List.mem_of_getElem? (i := 636) (by decide +kernel)⟩
theorem lw_p11 : lw_okq (⟨"ClosedFeuds", "liveYear", "()V"⟩, 10) := ⟨⟨by decide +kernel, by decide +kernel⟩, List.mem_of_getElem? (i := 19) (by decide +kernel), List.mem_of_getElem? (i := 671) (by decide +kernel), List.mem_of_getElem? (i := 672) (by decide +kernel)⟩
theorem lw_p12 : lw_okq (⟨"ClosedFeuds", "foldFeuds", "(J)J"⟩, 10) := ⟨⟨by decide +kernel, by decide +kernel⟩, List.mem_of_getElem? (i := 19) (by decide +kernel), List.mem_of_getElem? (i := 713) (by decide +kernel), List.mem_of_getElem? (i := 714) (by decide +kernel)⟩
theorem lw_p13 : lw_okq (⟨"ClosedFeuds", "foldPeople", "(J)J"⟩, 10) := ⟨⟨by decide +kernel, by decide +kernel⟩, List.mem_of_getElem? (i := 19) (by decide +kernel), List.mem_of_getElem? (i := 722) (by decide +kernel), List.mem_of_getElem? (i := 723) (by decide +kernel)⟩
theorem lw_p14 : lw_okq (⟨"ClosedFeuds", "foldHarming", "(J)J"⟩, 10) := ⟨⟨by decide +kernel, by decide +kernel⟩, List.mem_of_getElem? (i := 19) (by decide +kernel), List.mem_of_getElem? (i := 727) (by decide +kernel), List.mem_of_getElem? (i := 728) (by decide +kernel)⟩
theorem lw_p15 : lw_okq (⟨"ClosedFeudsModel", "peopleAsAtFirst", "()V"⟩, 26) := ⟨⟨by decide +kernel, by decide +kernel⟩, List.mem_of_getElem? (i := 736) (by decide +kernel), List.mem_of_getElem? (i := 742) (by decide +kernel), List.mem_of_getElem? (i := 743) (by decide +kernel)⟩
def lw_privs_1 : List (MethodName × Nat) := [(⟨"ClosedFeuds$Page", "stageBehind", "(III)I"⟩, 4), (⟨"ClosedFeuds", "isFeud", "(I)Z"⟩, 10), (⟨"ClosedFeuds", "hasList", "()Z"⟩, 10), (⟨"ClosedFeuds$Isle", "endLoansOf", "(I)V"⟩, 13), (⟨"ClosedFeuds$Isle", "inheritorOf", "(I)I"⟩, 13), (⟨"ClosedFeuds", "costOfFeud", "(III)I"⟩, 10), (⟨"ClosedFeuds$Matchmaker", "reckonGains", "(LClosedFeuds$Isle;)V"⟩, 4), (⟨"ClosedFeuds$Matchmaker", "bestOf", "(I)I"⟩, 4), (⟨"ClosedFeuds$Odds", "addFeud", "(JJ)V"⟩, 2), (⟨"ClosedFeuds$Odds", "waysOf", "(I)J"⟩, 2), (⟨"ClosedFeuds$Odds", "inLowest", "(JJ)J"⟩, 2), (⟨"ClosedFeuds", "liveYear", "()V"⟩, 10), (⟨"ClosedFeuds", "foldFeuds", "(J)J"⟩, 10), (⟨"ClosedFeuds", "foldPeople", "(J)J"⟩, 10), (⟨"ClosedFeuds", "foldHarming", "(J)J"⟩, 10), (⟨"ClosedFeudsModel", "peopleAsAtFirst", "()V"⟩, 26)]
theorem lw_r1 : ∀ q ∈ lw_privs_1, lw_okq q := List.forall_mem_cons.mpr ⟨lw_p0, List.forall_mem_cons.mpr ⟨lw_p1, List.forall_mem_cons.mpr ⟨lw_p2, List.forall_mem_cons.mpr ⟨lw_p3, List.forall_mem_cons.mpr ⟨lw_p4, List.forall_mem_cons.mpr ⟨lw_p5, List.forall_mem_cons.mpr ⟨lw_p6, List.forall_mem_cons.mpr ⟨lw_p7, List.forall_mem_cons.mpr ⟨lw_p8, List.forall_mem_cons.mpr ⟨lw_p9, List.forall_mem_cons.mpr ⟨lw_p10, List.forall_mem_cons.mpr ⟨lw_p11, List.forall_mem_cons.mpr ⟨lw_p12, List.forall_mem_cons.mpr ⟨lw_p13, List.forall_mem_cons.mpr ⟨lw_p14, List.forall_mem_cons.mpr ⟨lw_p15, fun _ h => absurd h List.not_mem_nil⟩⟩⟩⟩⟩⟩⟩⟩⟩⟩⟩⟩⟩⟩⟩⟩
theorem lw_p16 : lw_okq (⟨"ClosedFeudsModel", "faultOf", "()I"⟩, 26) := ⟨⟨by decide +kernel, by decide +kernel⟩, List.mem_of_getElem? (i := 736) (by decide +kernel), List.mem_of_getElem? (i := 841) (by decide +kernel), List.mem_of_getElem? (i := 842) (by decide +kernel)⟩
theorem lw_p17 : lw_okq (⟨"ClosedFeudsModel", "go", "(I)Z"⟩, 26) := ⟨⟨by decide +kernel, by decide +kernel⟩, List.mem_of_getElem? (i := 736) (by decide +kernel), List.mem_of_getElem? (i := 845) (by decide +kernel), List.mem_of_getElem? (i := 846) (by decide +kernel)⟩
theorem lw_p18 : lw_okq (⟨"ClosedFeudsModel", "isFeud", "(I)Z"⟩, 26) := ⟨⟨by decide +kernel, by decide +kernel⟩, List.mem_of_getElem? (i := 736) (by decide +kernel), List.mem_of_getElem? (i := 862) (by decide +kernel), List.mem_of_getElem? (i := 863) (by decide +kernel)⟩
theorem lw_p19 : lw_okq (⟨"ClosedFeudsModel", "tell", "(II)I"⟩, 26) := ⟨⟨by decide +kernel, by decide +kernel⟩, List.mem_of_getElem? (i := 736) (by decide +kernel), List.mem_of_getElem? (i := 866) (by decide +kernel), List.mem_of_getElem? (i := 867) (by decide +kernel)⟩
theorem lw_p20 : lw_okq (⟨"ClosedFeudsModel", "onSide", "(II)I"⟩, 26) := ⟨⟨by decide +kernel, by decide +kernel⟩, List.mem_of_getElem? (i := 736) (by decide +kernel), List.mem_of_getElem? (i := 870) (by decide +kernel), List.mem_of_getElem? (i := 871) (by decide +kernel)⟩
theorem lw_p21 : lw_okq (⟨"ClosedFeudsModel", "borrowerOf", "(II)I"⟩, 26) := ⟨⟨by decide +kernel, by decide +kernel⟩, List.mem_of_getElem? (i := 736) (by decide +kernel), List.mem_of_getElem? (i := 874) (by decide +kernel), List.mem_of_getElem? (i := 875) (by decide +kernel)⟩
theorem lw_p22 : lw_okq (⟨"ClosedFeudsModel", "ownerOf", "(II)I"⟩, 26) := ⟨⟨by decide +kernel, by decide +kernel⟩, List.mem_of_getElem? (i := 736) (by decide +kernel), List.mem_of_getElem? (i := 878) (by decide +kernel), List.mem_of_getElem? (i := 879) (by decide +kernel)⟩
theorem lw_p23 : lw_okq (⟨"ClosedFeudsModel", "isStruck", "(I)Z"⟩, 26) := ⟨⟨by decide +kernel, by decide +kernel⟩, List.mem_of_getElem? (i := 736) (by decide +kernel), List.mem_of_getElem? (i := 882) (by decide +kernel), List.mem_of_getElem? (i := 883) (by decide +kernel)⟩
theorem lw_p24 : lw_okq (⟨"ClosedFeudsModel", "priceOf", "(II)I"⟩, 26) := ⟨⟨by decide +kernel, by decide +kernel⟩, List.mem_of_getElem? (i := 736) (by decide +kernel), List.mem_of_getElem? (i := 886) (by decide +kernel), List.mem_of_getElem? (i := 887) (by decide +kernel)⟩
theorem lw_p25 : lw_okq (⟨"ClosedFeudsModel", "tellMan", "(II)I"⟩, 26) := ⟨⟨by decide +kernel, by decide +kernel⟩, List.mem_of_getElem? (i := 736) (by decide +kernel), List.mem_of_getElem? (i := 902) (by decide +kernel), List.mem_of_getElem? (i := 903) (by decide +kernel)⟩
theorem lw_p26 : lw_okq (⟨"ClosedFeudsModel", "sidesOf", "(I)I"⟩, 26) := ⟨⟨by decide +kernel, by decide +kernel⟩, List.mem_of_getElem? (i := 736) (by decide +kernel), List.mem_of_getElem? (i := 906) (by decide +kernel), List.mem_of_getElem? (i := 907) (by decide +kernel)⟩
theorem lw_p27 : lw_okq (⟨"ClosedFeudsModel", "harmsBy", "(II)I"⟩, 26) := ⟨⟨by decide +kernel, by decide +kernel⟩, List.mem_of_getElem? (i := 736) (by decide +kernel), List.mem_of_getElem? (i := 910) (by decide +kernel), List.mem_of_getElem? (i := 911) (by decide +kernel)⟩
theorem lw_p28 : lw_okq (⟨"ClosedFeudsModel", "lacks", "()Z"⟩, 26) := ⟨⟨by decide +kernel, by decide +kernel⟩, List.mem_of_getElem? (i := 736) (by decide +kernel), List.mem_of_getElem? (i := 918) (by decide +kernel), List.mem_of_getElem? (i := 919) (by decide +kernel)⟩
theorem lw_p29 : lw_okq (⟨"ClosedFeudsModel", "isAlive", "(I)Z"⟩, 26) := ⟨⟨by decide +kernel, by decide +kernel⟩, List.mem_of_getElem? (i := 736) (by decide +kernel), List.mem_of_getElem? (i := 922) (by decide +kernel), List.mem_of_getElem? (i := 923) (by decide +kernel)⟩
theorem lw_p30 : lw_okq (⟨"ClosedFeudsModel", "canBuy", "(III)Z"⟩, 26) := ⟨⟨by decide +kernel, by decide +kernel⟩, List.mem_of_getElem? (i := 736) (by decide +kernel), List.mem_of_getElem? (i := 930) (by decide +kernel), List.mem_of_getElem? (i := 931) (by decide +kernel)⟩
theorem lw_p31 : lw_okq (⟨"ClosedFeudsModel", "hasToDo", "(II)Z"⟩, 26) := ⟨⟨by decide +kernel, by decide +kernel⟩, List.mem_of_getElem? (i := 736) (by decide +kernel), List.mem_of_getElem? (i := 934) (by decide +kernel), List.mem_of_getElem? (i := 935) (by decide +kernel)⟩
def lw_privs_2 : List (MethodName × Nat) := [(⟨"ClosedFeudsModel", "faultOf", "()I"⟩, 26), (⟨"ClosedFeudsModel", "go", "(I)Z"⟩, 26), (⟨"ClosedFeudsModel", "isFeud", "(I)Z"⟩, 26), (⟨"ClosedFeudsModel", "tell", "(II)I"⟩, 26), (⟨"ClosedFeudsModel", "onSide", "(II)I"⟩, 26), (⟨"ClosedFeudsModel", "borrowerOf", "(II)I"⟩, 26), (⟨"ClosedFeudsModel", "ownerOf", "(II)I"⟩, 26), (⟨"ClosedFeudsModel", "isStruck", "(I)Z"⟩, 26), (⟨"ClosedFeudsModel", "priceOf", "(II)I"⟩, 26), (⟨"ClosedFeudsModel", "tellMan", "(II)I"⟩, 26), (⟨"ClosedFeudsModel", "sidesOf", "(I)I"⟩, 26), (⟨"ClosedFeudsModel", "harmsBy", "(II)I"⟩, 26), (⟨"ClosedFeudsModel", "lacks", "()Z"⟩, 26), (⟨"ClosedFeudsModel", "isAlive", "(I)Z"⟩, 26), (⟨"ClosedFeudsModel", "canBuy", "(III)Z"⟩, 26), (⟨"ClosedFeudsModel", "hasToDo", "(II)Z"⟩, 26)]
theorem lw_r2 : ∀ q ∈ lw_privs_2, lw_okq q := List.forall_mem_cons.mpr ⟨lw_p16, List.forall_mem_cons.mpr ⟨lw_p17, List.forall_mem_cons.mpr ⟨lw_p18, List.forall_mem_cons.mpr ⟨lw_p19, List.forall_mem_cons.mpr ⟨lw_p20, List.forall_mem_cons.mpr ⟨lw_p21, List.forall_mem_cons.mpr ⟨lw_p22, List.forall_mem_cons.mpr ⟨lw_p23, List.forall_mem_cons.mpr ⟨lw_p24, List.forall_mem_cons.mpr ⟨lw_p25, List.forall_mem_cons.mpr ⟨lw_p26, List.forall_mem_cons.mpr ⟨lw_p27, List.forall_mem_cons.mpr ⟨lw_p28, List.forall_mem_cons.mpr ⟨lw_p29, List.forall_mem_cons.mpr ⟨lw_p30, List.forall_mem_cons.mpr ⟨lw_p31, fun _ h => absurd h List.not_mem_nil⟩⟩⟩⟩⟩⟩⟩⟩⟩⟩⟩⟩⟩⟩⟩⟩
theorem lw_p32 : lw_okq (⟨"ClosedFeudsModel", "bought", "(III)I"⟩, 26) := ⟨⟨by decide +kernel, by decide +kernel⟩, List.mem_of_getElem? (i := 736) (by decide +kernel), List.mem_of_getElem? (i := 938) (by decide +kernel), List.mem_of_getElem? (i := 939) (by decide +kernel)⟩
theorem lw_p33 : lw_okq (⟨"ClosedFeudsModel", "struckMany", "()I"⟩, 26) := ⟨⟨by decide +kernel, by decide +kernel⟩, List.mem_of_getElem? (i := 736) (by decide +kernel), List.mem_of_getElem? (i := 953) (by decide +kernel), List.mem_of_getElem? (i := 954) (by decide +kernel)⟩
theorem lw_p34 : lw_okq (⟨"ClosedFeudsModel", "died", "(I)I"⟩, 26) := ⟨⟨by decide +kernel, by decide +kernel⟩, List.mem_of_getElem? (i := 736) (by decide +kernel), List.mem_of_getElem? (i := 961) (by decide +kernel), List.mem_of_getElem? (i := 962) (by decide +kernel)⟩
theorem lw_p35 : lw_okq (⟨"ClosedFeudsModel", "heirOf", "(I)I"⟩, 26) := ⟨⟨by decide +kernel, by decide +kernel⟩, List.mem_of_getElem? (i := 736) (by decide +kernel), List.mem_of_getElem? (i := 965) (by decide +kernel), List.mem_of_getElem? (i := 966) (by decide +kernel)⟩
theorem lw_p36 : lw_okq (⟨"ClosedFeudsModel", "harmOf", "(II)I"⟩, 26) := ⟨⟨by decide +kernel, by decide +kernel⟩, List.mem_of_getElem? (i := 736) (by decide +kernel), List.mem_of_getElem? (i := 976) (by decide +kernel), List.mem_of_getElem? (i := 977) (by decide +kernel)⟩
theorem lw_p37 : lw_okq (⟨"ClosedFeudsModel", "areOn", "(III)Z"⟩, 26) := ⟨⟨by decide +kernel, by decide +kernel⟩, List.mem_of_getElem? (i := 736) (by decide +kernel), List.mem_of_getElem? (i := 980) (by decide +kernel), List.mem_of_getElem? (i := 981) (by decide +kernel)⟩
theorem lw_p38 : lw_okq (⟨"ClosedFeudsModel", "ended", "()I"⟩, 26) := ⟨⟨by decide +kernel, by decide +kernel⟩, List.mem_of_getElem? (i := 736) (by decide +kernel), List.mem_of_getElem? (i := 992) (by decide +kernel), List.mem_of_getElem? (i := 993) (by decide +kernel)⟩
theorem lw_p39 : lw_okq (⟨"ClosedFeudsModel", "save", "()V"⟩, 26) := ⟨⟨by decide +kernel, by decide +kernel⟩, List.mem_of_getElem? (i := 736) (by decide +kernel), List.mem_of_getElem? (i := 1000) (by decide +kernel), List.mem_of_getElem? (i := 1001) (by decide +kernel)⟩
theorem lw_p40 : lw_okq (⟨"ClosedFeudsModel", "bothOn", "(III)I"⟩, 26) := ⟨⟨by decide +kernel, by decide +kernel⟩, List.mem_of_getElem? (i := 736) (by decide +kernel), List.mem_of_getElem? (i := 1007) (by decide +kernel), List.mem_of_getElem? (i := 1008) (by decide +kernel)⟩
theorem lw_p41 : lw_okq (⟨"ClosedFeudsModel", "getsOn", "(III)I"⟩, 26) := ⟨⟨by decide +kernel, by decide +kernel⟩, List.mem_of_getElem? (i := 736) (by decide +kernel), List.mem_of_getElem? (i := 1011) (by decide +kernel), List.mem_of_getElem? (i := 1012) (by decide +kernel)⟩
theorem lw_p42 : lw_okq (⟨"ClosedFeudsModel", "layBack", "()V"⟩, 26) := ⟨⟨by decide +kernel, by decide +kernel⟩, List.mem_of_getElem? (i := 736) (by decide +kernel), List.mem_of_getElem? (i := 1015) (by decide +kernel), List.mem_of_getElem? (i := 1016) (by decide +kernel)⟩
theorem lw_p43 : lw_okq (⟨"ClosedFeudsModel", "marryOf", "(I)I"⟩, 26) := ⟨⟨by decide +kernel, by decide +kernel⟩, List.mem_of_getElem? (i := 736) (by decide +kernel), List.mem_of_getElem? (i := 1023) (by decide +kernel), List.mem_of_getElem? (i := 1024) (by decide +kernel)⟩
theorem lw_p44 : lw_okq (⟨"ClosedFeudsModel", "feudsOf", "(II)I"⟩, 26) := ⟨⟨by decide +kernel, by decide +kernel⟩, List.mem_of_getElem? (i := 736) (by decide +kernel), List.mem_of_getElem? (i := 1027) (by decide +kernel), List.mem_of_getElem? (i := 1028) (by decide +kernel)⟩
theorem lw_p45 : lw_okq (⟨"ClosedFeudsModel", "lapsedOf", "(I)I"⟩, 26) := ⟨⟨by decide +kernel, by decide +kernel⟩, List.mem_of_getElem? (i := 736) (by decide +kernel), List.mem_of_getElem? (i := 1061) (by decide +kernel), List.mem_of_getElem? (i := 1062) (by decide +kernel)⟩
theorem lw_p46 : lw_okq (⟨"ClosedFeudsModel", "isLapsedBy", "(II)Z"⟩, 26) := ⟨⟨by decide +kernel, by decide +kernel⟩, List.mem_of_getElem? (i := 736) (by decide +kernel), List.mem_of_getElem? (i := 1065) (by decide +kernel), List.mem_of_getElem? (i := 1066) (by decide +kernel)⟩
theorem lw_p47 : lw_okq (⟨"ClosedFeudsModel", "draw", "(I)I"⟩, 26) := ⟨⟨by decide +kernel, by decide +kernel⟩, List.mem_of_getElem? (i := 736) (by decide +kernel), List.mem_of_getElem? (i := 1075) (by decide +kernel), List.mem_of_getElem? (i := 1076) (by decide +kernel)⟩
def lw_privs_3 : List (MethodName × Nat) := [(⟨"ClosedFeudsModel", "bought", "(III)I"⟩, 26), (⟨"ClosedFeudsModel", "struckMany", "()I"⟩, 26), (⟨"ClosedFeudsModel", "died", "(I)I"⟩, 26), (⟨"ClosedFeudsModel", "heirOf", "(I)I"⟩, 26), (⟨"ClosedFeudsModel", "harmOf", "(II)I"⟩, 26), (⟨"ClosedFeudsModel", "areOn", "(III)Z"⟩, 26), (⟨"ClosedFeudsModel", "ended", "()I"⟩, 26), (⟨"ClosedFeudsModel", "save", "()V"⟩, 26), (⟨"ClosedFeudsModel", "bothOn", "(III)I"⟩, 26), (⟨"ClosedFeudsModel", "getsOn", "(III)I"⟩, 26), (⟨"ClosedFeudsModel", "layBack", "()V"⟩, 26), (⟨"ClosedFeudsModel", "marryOf", "(I)I"⟩, 26), (⟨"ClosedFeudsModel", "feudsOf", "(II)I"⟩, 26), (⟨"ClosedFeudsModel", "lapsedOf", "(I)I"⟩, 26), (⟨"ClosedFeudsModel", "isLapsedBy", "(II)Z"⟩, 26), (⟨"ClosedFeudsModel", "draw", "(I)I"⟩, 26)]
theorem lw_r3 : ∀ q ∈ lw_privs_3, lw_okq q := List.forall_mem_cons.mpr ⟨lw_p32, List.forall_mem_cons.mpr ⟨lw_p33, List.forall_mem_cons.mpr ⟨lw_p34, List.forall_mem_cons.mpr ⟨lw_p35, List.forall_mem_cons.mpr ⟨lw_p36, List.forall_mem_cons.mpr ⟨lw_p37, List.forall_mem_cons.mpr ⟨lw_p38, List.forall_mem_cons.mpr ⟨lw_p39, List.forall_mem_cons.mpr ⟨lw_p40, List.forall_mem_cons.mpr ⟨lw_p41, List.forall_mem_cons.mpr ⟨lw_p42, List.forall_mem_cons.mpr ⟨lw_p43, List.forall_mem_cons.mpr ⟨lw_p44, List.forall_mem_cons.mpr ⟨lw_p45, List.forall_mem_cons.mpr ⟨lw_p46, List.forall_mem_cons.mpr ⟨lw_p47, fun _ h => absurd h List.not_mem_nil⟩⟩⟩⟩⟩⟩⟩⟩⟩⟩⟩⟩⟩⟩⟩⟩
theorem lw_p48 : lw_okq (⟨"ClosedFeudsModel", "aliveMany", "()I"⟩, 26) := ⟨⟨by decide +kernel, by decide +kernel⟩, List.mem_of_getElem? (i := 736) (by decide +kernel), List.mem_of_getElem? (i := 1083) (by decide +kernel), List.mem_of_getElem? (i := 1084) (by decide +kernel)⟩
theorem lw_p49 : lw_okq (⟨"ClosedFeudsModel", "openMany", "()I"⟩, 26) := ⟨⟨by decide +kernel, by decide +kernel⟩, List.mem_of_getElem? (i := 736) (by decide +kernel), List.mem_of_getElem? (i := 1087) (by decide +kernel), List.mem_of_getElem? (i := 1088) (by decide +kernel)⟩
theorem lw_p50 : lw_okq (⟨"ClosedFeudsModel", "countOf", "(I)I"⟩, 26) := ⟨⟨by decide +kernel, by decide +kernel⟩, List.mem_of_getElem? (i := 736) (by decide +kernel), List.mem_of_getElem? (i := 1103) (by decide +kernel), List.mem_of_getElem? (i := 1104) (by decide +kernel)⟩
theorem lw_p51 : lw_okq (⟨"ClosedFeudsModel", "lentMany", "()I"⟩, 26) := ⟨⟨by decide +kernel, by decide +kernel⟩, List.mem_of_getElem? (i := 736) (by decide +kernel), List.mem_of_getElem? (i := 1107) (by decide +kernel), List.mem_of_getElem? (i := 1108) (by decide +kernel)⟩
theorem lw_p52 : lw_okq (⟨"ClosedFeudsModel", "say", "(J)V"⟩, 26) := ⟨⟨by decide +kernel, by decide +kernel⟩, List.mem_of_getElem? (i := 736) (by decide +kernel), List.mem_of_getElem? (i := 1116) (by decide +kernel), List.mem_of_getElem? (i := 1117) (by decide +kernel)⟩
def lw_privs_4 : List (MethodName × Nat) := [(⟨"ClosedFeudsModel", "aliveMany", "()I"⟩, 26), (⟨"ClosedFeudsModel", "openMany", "()I"⟩, 26), (⟨"ClosedFeudsModel", "countOf", "(I)I"⟩, 26), (⟨"ClosedFeudsModel", "lentMany", "()I"⟩, 26), (⟨"ClosedFeudsModel", "say", "(J)V"⟩, 26)]
theorem lw_r4 : ∀ q ∈ lw_privs_4, lw_okq q := List.forall_mem_cons.mpr ⟨lw_p48, List.forall_mem_cons.mpr ⟨lw_p49, List.forall_mem_cons.mpr ⟨lw_p50, List.forall_mem_cons.mpr ⟨lw_p51, List.forall_mem_cons.mpr ⟨lw_p52, fun _ h => absurd h List.not_mem_nil⟩⟩⟩⟩⟩
def lw_privs : List (MethodName × Nat) := lw_privs_1 ++ (lw_privs_2 ++ (lw_privs_3 ++ (lw_privs_4)))
def lw_tbl : List Cond := k2_sels lw_privs ++ tables_1
theorem lw_privs_ok : ∀ q ∈ lw_privs, lw_okq q := by
  show ∀ q ∈ lw_privs_1 ++ (lw_privs_2 ++ (lw_privs_3 ++ (lw_privs_4))), lw_okq q
  exact List.forall_mem_append.mpr ⟨lw_r1, List.forall_mem_append.mpr ⟨lw_r2, List.forall_mem_append.mpr ⟨lw_r3, lw_r4⟩⟩⟩
end
section
/-! ===== BEGIN words of one list among another's, by their places ===== -/
theorem goodIn_r {big : List Cond} (ws : List Cond) (ps : List Nat) (hp : ws = ps.filterMap (fun i => big[i]?)) (h : ws.all goodWord = true) : GoodIn big ws := by
  intro w hw
  have h1 := List.all_eq_true.mp h w hw
  rw [hp] at hw
  obtain ⟨i, -, hi⟩ := List.mem_filterMap.mp hw
  have hm : w ∈ big := by first | exact List.mem_of_getElem? hi | exact List.getElem?_mem hi
  exact ⟨hm, good_of_word h1⟩
theorem goodIn_app {big a b : List Cond} (ha : GoodIn big a) (hb : GoodIn big b) : GoodIn big (a ++ b) := fun w h => (List.mem_append.mp h).elim (ha w) (hb w)
theorem goodIn_ca {big a b : List Cond} {c : Cond} (ha : GoodIn big (c :: a)) (hb : GoodIn big b) : GoodIn big (c :: (a ++ b)) := fun w h => (List.mem_cons.mp h).elim (fun e => ha w (List.mem_cons.mpr (Or.inl e))) (fun h => (List.mem_append.mp h).elim (fun h => ha w (List.mem_cons.mpr (Or.inr h))) (hb w))
theorem goodIn_sub {big ws : List Cond} (hm : ∀ w ∈ ws, w ∈ big) (h : ws.all goodWord = true) : GoodIn big ws := fun w hw => ⟨hm w hw, good_of_word (List.all_eq_true.mp h w hw)⟩
/-! ===== END ===== -/

/-! ===== BEGIN printed: names, fields, word lists, decode rows ===== -/
def RX0 : String := "ClosedFeuds$Boundary"
def TX0 : u_T := fun k => match k with
  | _ => ("ClosedFeuds$Feud", "worth", "I", true)
def tyX0 : Nat → FieldType := fun k => match k with
  | _ => .int
abbrev wsX00 : List Cond := u_ws RX0 TX0 1
theorem nmX0 : ∀ a, a < 1 → ∀ b, b < 1 → a ≠ b → (TX0 a).2.1 ≠ (TX0 b).2.1 := by decide +kernel
theorem tyX0_ok : ∀ k, k < 1 → parseFieldDescriptor (TX0 k).2.2.1 = some (tyX0 k) := by decide +kernel
abbrev cX0_init : ByteArray := prog_2_method_1_code
def yX0_init : MethodName := ⟨RX0, "<init>", "(I)V"⟩
abbrev cX0_kind : ByteArray := prog_2_method_2_code
def yX0_kind : MethodName := ⟨RX0, "kind", "()I"⟩
abbrev cX0_isLendable : ByteArray := prog_2_method_3_code
def yX0_isLendable : MethodName := ⟨RX0, "isLendable", "()Z"⟩
def RX1 : String := "ClosedFeuds$Draws"
def TX1 : u_T := fun k => match k with
  | _ => ("ClosedFeuds$Draws", "seed", "I", false)
def tyX1 : Nat → FieldType := fun k => match k with
  | _ => .int
abbrev wsX10 : List Cond := u_ws RX1 TX1 1
theorem nmX1 : ∀ a, a < 1 → ∀ b, b < 1 → a ≠ b → (TX1 a).2.1 ≠ (TX1 b).2.1 := by decide +kernel
theorem tyX1_ok : ∀ k, k < 1 → parseFieldDescriptor (TX1 k).2.2.1 = some (tyX1 k) := by decide +kernel
abbrev cX1_init : ByteArray := prog_3_method_1_code
def yX1_init : MethodName := ⟨RX1, "<init>", "()V"⟩
abbrev cX1_below : ByteArray := prog_3_method_2_code
def yX1_below : MethodName := ⟨RX1, "below", "(I)I"⟩
def RX2 : String := "ClosedFeuds$Feud"
def TX2 : u_T := fun k => match k with
  | _ => ("ClosedFeuds$Feud", "worth", "I", true)
def tyX2 : Nat → FieldType := fun k => match k with
  | _ => .int
abbrev wsX20 : List Cond := u_ws RX2 TX2 1
theorem nmX2 : ∀ a, a < 1 → ∀ b, b < 1 → a ≠ b → (TX2 a).2.1 ≠ (TX2 b).2.1 := by decide +kernel
theorem tyX2_ok : ∀ k, k < 1 → parseFieldDescriptor (TX2 k).2.2.1 = some (tyX2 k) := by decide +kernel
abbrev cX2_init : ByteArray := prog_4_method_1_code
def yX2_init : MethodName := ⟨RX2, "<init>", "(I)V"⟩
abbrev cX2_kind : ByteArray := prog_4_method_2_code
def yX2_kind : MethodName := ⟨RX2, "kind", "()I"⟩
abbrev cX2_fullPrice : ByteArray := prog_4_method_3_code
def yX2_fullPrice : MethodName := ⟨RX2, "fullPrice", "()I"⟩
abbrev cX2_isLendable : ByteArray := prog_4_method_4_code
def yX2_isLendable : MethodName := ⟨RX2, "isLendable", "()Z"⟩
abbrev cX2_mostOpenAtPeace : ByteArray := prog_4_method_5_code
def yX2_mostOpenAtPeace : MethodName := ⟨RX2, "mostOpenAtPeace", "()I"⟩
def RX3 : String := "ClosedFeuds$Grudge"
def TX3 : u_T := fun k => match k with
  | _ => ("ClosedFeuds$Feud", "worth", "I", true)
def tyX3 : Nat → FieldType := fun k => match k with
  | _ => .int
abbrev wsX30 : List Cond := u_ws RX3 TX3 1
theorem nmX3 : ∀ a, a < 1 → ∀ b, b < 1 → a ≠ b → (TX3 a).2.1 ≠ (TX3 b).2.1 := by decide +kernel
theorem tyX3_ok : ∀ k, k < 1 → parseFieldDescriptor (TX3 k).2.2.1 = some (tyX3 k) := by decide +kernel
abbrev cX3_init : ByteArray := prog_5_method_1_code
def yX3_init : MethodName := ⟨RX3, "<init>", "(I)V"⟩
abbrev cX3_kind : ByteArray := prog_5_method_2_code
def yX3_kind : MethodName := ⟨RX3, "kind", "()I"⟩
abbrev cX3_fullPrice : ByteArray := prog_5_method_3_code
def yX3_fullPrice : MethodName := ⟨RX3, "fullPrice", "()I"⟩
abbrev cX3_isLendable : ByteArray := prog_5_method_4_code
def yX3_isLendable : MethodName := ⟨RX3, "isLendable", "()Z"⟩
def RX4 : String := "ClosedFeuds$Isle"
def TX4 : u_T := fun k => match k with
  | 0 => ("ClosedFeuds$Isle", "theList", "LClosedFeuds$TheList;", true)
  | 1 => ("ClosedFeuds$Isle", "money", "[I", true)
  | 2 => ("ClosedFeuds$Isle", "heir", "[I", true)
  | 3 => ("ClosedFeuds$Isle", "alive", "[Z", true)
  | 4 => ("ClosedFeuds$Isle", "owner", "[I", true)
  | 5 => ("ClosedFeuds$Isle", "lentTo", "[I", true)
  | 6 => ("ClosedFeuds$Isle", "struck", "[Z", true)
  | 7 => ("ClosedFeuds$Isle", "harmers", "[I", true)
  | 8 => ("ClosedFeuds$Isle", "harmed", "[I", true)
  | 9 => ("ClosedFeuds$Isle", "harms", "I", false)
  | 10 => ("ClosedFeuds$Isle", "registerers", "[I", true)
  | 11 => ("ClosedFeuds$Isle", "registered", "[I", true)
  | _ => ("ClosedFeuds$Isle", "registers", "I", false)
def tyX4 : Nat → FieldType := fun k => match k with
  | 0 => .object "ClosedFeuds$TheList"
  | 1 => .array .int
  | 2 => .array .int
  | 3 => .array .boolean
  | 4 => .array .int
  | 5 => .array .int
  | 6 => .array .boolean
  | 7 => .array .int
  | 8 => .array .int
  | 9 => .int
  | 10 => .array .int
  | 11 => .array .int
  | _ => .int
abbrev wsX40 : List Cond := u_ws RX4 TX4 13
theorem nmX4 : ∀ a, a < 13 → ∀ b, b < 13 → a ≠ b → (TX4 a).2.1 ≠ (TX4 b).2.1 := by decide +kernel
theorem tyX4_ok : ∀ k, k < 13 → parseFieldDescriptor (TX4 k).2.2.1 = some (tyX4 k) := by decide +kernel
abbrev cX4_init : ByteArray := prog_6_method_1_code
def yX4_init : MethodName := ⟨RX4, "<init>", "(LClosedFeuds$TheList;)V"⟩
abbrev cX4_begin : ByteArray := prog_6_method_2_code
def yX4_begin : MethodName := ⟨RX4, "begin", "()V"⟩
abbrev cX4_copyFrom : ByteArray := prog_6_method_3_code
def yX4_copyFrom : MethodName := ⟨RX4, "copyFrom", "(LClosedFeuds$Isle;)V"⟩
abbrev cX4_onSide : ByteArray := prog_6_method_4_code
def yX4_onSide : MethodName := ⟨RX4, "onSide", "(II)I"⟩
abbrev cX4_lenderOf : ByteArray := prog_6_method_5_code
def yX4_lenderOf : MethodName := ⟨RX4, "lenderOf", "(II)I"⟩
abbrev cX4_isOpen : ByteArray := prog_6_method_6_code
def yX4_isOpen : MethodName := ⟨RX4, "isOpen", "(II)Z"⟩
abbrev cX4_isLent : ByteArray := prog_6_method_7_code
def yX4_isLent : MethodName := ⟨RX4, "isLent", "(II)Z"⟩
abbrev cX4_hasToDoWithSide : ByteArray := prog_6_method_8_code
def yX4_hasToDoWithSide : MethodName := ⟨RX4, "hasToDoWithSide", "(III)Z"⟩
abbrev cX4_hasToDo : ByteArray := prog_6_method_9_code
def yX4_hasToDo : MethodName := ⟨RX4, "hasToDo", "(II)Z"⟩
abbrev cX4_priceOf : ByteArray := prog_6_method_10_code
def yX4_priceOf : MethodName := ⟨RX4, "priceOf", "(II)I"⟩
abbrev cX4_toldPrice : ByteArray := prog_6_method_11_code
def yX4_toldPrice : MethodName := ⟨RX4, "toldPrice", "(II)I"⟩
abbrev cX4_canBuy : ByteArray := prog_6_method_12_code
def yX4_canBuy : MethodName := ⟨RX4, "canBuy", "(III)Z"⟩
abbrev cX4_sellTo : ByteArray := prog_6_method_13_code
def yX4_sellTo : MethodName := ⟨RX4, "sellTo", "(III)I"⟩
abbrev cX4_pay : ByteArray := prog_6_method_14_code
def yX4_pay : MethodName := ⟨RX4, "pay", "(II)V"⟩
abbrev cX4_getOn : ByteArray := prog_6_method_15_code
def yX4_getOn : MethodName := ⟨RX4, "getOn", "(III)I"⟩
abbrev cX4_canLend : ByteArray := prog_6_method_16_code
def yX4_canLend : MethodName := ⟨RX4, "canLend", "(III)Z"⟩
abbrev cX4_canStrike : ByteArray := prog_6_method_17_code
def yX4_canStrike : MethodName := ⟨RX4, "canStrike", "(I)Z"⟩
abbrev cX4_strike : ByteArray := prog_6_method_18_code
def yX4_strike : MethodName := ⟨RX4, "strike", "(I)V"⟩
abbrev cX4_die : ByteArray := prog_6_method_19_code
def yX4_die : MethodName := ⟨RX4, "die", "(I)I"⟩
abbrev cX4_endLoansOf : ByteArray := prog_6_method_20_code
def yX4_endLoansOf : MethodName := ⟨RX4, "endLoansOf", "(I)V"⟩
abbrev cX4_inheritorOf : ByteArray := prog_6_method_21_code
def yX4_inheritorOf : MethodName := ⟨RX4, "inheritorOf", "(I)I"⟩
abbrev cX4_areOnBothSides : ByteArray := prog_6_method_22_code
def yX4_areOnBothSides : MethodName := ⟨RX4, "areOnBothSides", "(III)Z"⟩
abbrev cX4_feudBetween : ByteArray := prog_6_method_23_code
def yX4_feudBetween : MethodName := ⟨RX4, "feudBetween", "(II)I"⟩
abbrev cX4_feudsShared : ByteArray := prog_6_method_24_code
def yX4_feudsShared : MethodName := ⟨RX4, "feudsShared", "(II)I"⟩
abbrev cX4_keepHarm : ByteArray := prog_6_method_25_code
def yX4_keepHarm : MethodName := ⟨RX4, "keepHarm", "(II)Z"⟩
abbrev cX4_keepRegister : ByteArray := prog_6_method_26_code
def yX4_keepRegister : MethodName := ⟨RX4, "keepRegister", "(II)Z"⟩
abbrev cX4_registersFit : ByteArray := prog_6_method_27_code
def yX4_registersFit : MethodName := ⟨RX4, "registersFit", "(II)Z"⟩
abbrev cX4_endSeason : ByteArray := prog_6_method_28_code
def yX4_endSeason : MethodName := ⟨RX4, "endSeason", "()I"⟩
abbrev cX4_sidesOf : ByteArray := prog_6_method_29_code
def yX4_sidesOf : MethodName := ⟨RX4, "sidesOf", "(I)I"⟩
abbrev cX4_struckFeuds : ByteArray := prog_6_method_30_code
def yX4_struckFeuds : MethodName := ⟨RX4, "struckFeuds", "()I"⟩
abbrev cX4_peopleAlive : ByteArray := prog_6_method_31_code
def yX4_peopleAlive : MethodName := ⟨RX4, "peopleAlive", "()I"⟩
abbrev cX4_moneyOfAll : ByteArray := prog_6_method_32_code
def yX4_moneyOfAll : MethodName := ⟨RX4, "moneyOfAll", "()I"⟩
abbrev cX4_openSides : ByteArray := prog_6_method_33_code
def yX4_openSides : MethodName := ⟨RX4, "openSides", "()I"⟩
abbrev cX4_lentSides : ByteArray := prog_6_method_34_code
def yX4_lentSides : MethodName := ⟨RX4, "lentSides", "()I"⟩
def RX5 : String := "ClosedFeuds$Joke"
def TX5 : u_T := fun k => match k with
  | _ => ("ClosedFeuds$Feud", "worth", "I", true)
def tyX5 : Nat → FieldType := fun k => match k with
  | _ => .int
abbrev wsX50 : List Cond := u_ws RX5 TX5 1
theorem nmX5 : ∀ a, a < 1 → ∀ b, b < 1 → a ≠ b → (TX5 a).2.1 ≠ (TX5 b).2.1 := by decide +kernel
theorem tyX5_ok : ∀ k, k < 1 → parseFieldDescriptor (TX5 k).2.2.1 = some (tyX5 k) := by decide +kernel
abbrev cX5_init : ByteArray := prog_7_method_1_code
def yX5_init : MethodName := ⟨RX5, "<init>", "(I)V"⟩
abbrev cX5_kind : ByteArray := prog_7_method_2_code
def yX5_kind : MethodName := ⟨RX5, "kind", "()I"⟩
abbrev cX5_fullPrice : ByteArray := prog_7_method_3_code
def yX5_fullPrice : MethodName := ⟨RX5, "fullPrice", "()I"⟩
abbrev cX5_mostOpenAtPeace : ByteArray := prog_7_method_4_code
def yX5_mostOpenAtPeace : MethodName := ⟨RX5, "mostOpenAtPeace", "()I"⟩
def RX6 : String := "ClosedFeuds$Matchmaker"
def TX6 : u_T := fun k => match k with
  | 0 => ("ClosedFeuds$Matchmaker", "best", "[I", true)
  | 1 => ("ClosedFeuds$Matchmaker", "gains", "[I", true)
  | 2 => ("ClosedFeuds$Matchmaker", "mostStruck", "I", false)
  | _ => ("ClosedFeuds$Matchmaker", "fewestPairs", "I", false)
def tyX6 : Nat → FieldType := fun k => match k with
  | 0 => .array .int
  | 1 => .array .int
  | 2 => .int
  | _ => .int
abbrev wsX60 : List Cond := u_ws RX6 TX6 4
theorem nmX6 : ∀ a, a < 4 → ∀ b, b < 4 → a ≠ b → (TX6 a).2.1 ≠ (TX6 b).2.1 := by decide +kernel
theorem tyX6_ok : ∀ k, k < 4 → parseFieldDescriptor (TX6 k).2.2.1 = some (tyX6 k) := by decide +kernel
abbrev cX6_init : ByteArray := prog_8_method_1_code
def yX6_init : MethodName := ⟨RX6, "<init>", "()V"⟩
abbrev cX6_pairUp : ByteArray := prog_8_method_2_code
def yX6_pairUp : MethodName := ⟨RX6, "pairUp", "(LClosedFeuds$Isle;)V"⟩
abbrev cX6_reckonGains : ByteArray := prog_8_method_3_code
def yX6_reckonGains : MethodName := ⟨RX6, "reckonGains", "(LClosedFeuds$Isle;)V"⟩
abbrev cX6_bestOf : ByteArray := prog_8_method_4_code
def yX6_bestOf : MethodName := ⟨RX6, "bestOf", "(I)I"⟩
abbrev cX6_leastOf : ByteArray := prog_8_method_5_code
def yX6_leastOf : MethodName := ⟨RX6, "leastOf", "(I)I"⟩
def RX7 : String := "ClosedFeuds$Odds"
def TX7 : u_T := fun k => match k with
  | 0 => ("ClosedFeuds$Odds", "ways", "[J", true)
  | _ => ("ClosedFeuds$Odds", "all", "J", false)
def tyX7 : Nat → FieldType := fun k => match k with
  | 0 => .array .long
  | _ => .long
abbrev wsX70 : List Cond := u_ws RX7 TX7 2
theorem nmX7 : ∀ a, a < 2 → ∀ b, b < 2 → a ≠ b → (TX7 a).2.1 ≠ (TX7 b).2.1 := by decide +kernel
theorem tyX7_ok : ∀ k, k < 2 → parseFieldDescriptor (TX7 k).2.2.1 = some (tyX7 k) := by decide +kernel
abbrev cX7_init : ByteArray := prog_9_method_1_code
def yX7_init : MethodName := ⟨RX7, "<init>", "()V"⟩
abbrev cX7_reckon : ByteArray := prog_9_method_2_code
def yX7_reckon : MethodName := ⟨RX7, "reckon", "(LClosedFeuds$Isle;I)V"⟩
abbrev cX7_addFeud : ByteArray := prog_9_method_3_code
def yX7_addFeud : MethodName := ⟨RX7, "addFeud", "(JJ)V"⟩
abbrev cX7_above : ByteArray := prog_9_method_4_code
def yX7_above : MethodName := ⟨RX7, "above", "(I)J"⟩
abbrev cX7_below : ByteArray := prog_9_method_5_code
def yX7_below : MethodName := ⟨RX7, "below", "(I)J"⟩
abbrev cX7_waysOf : ByteArray := prog_9_method_6_code
def yX7_waysOf : MethodName := ⟨RX7, "waysOf", "(I)J"⟩
abbrev cX7_inLowest : ByteArray := prog_9_method_7_code
def yX7_inLowest : MethodName := ⟨RX7, "inLowest", "(JJ)J"⟩
abbrev cX7_commonDivisor : ByteArray := prog_9_method_8_code
def yX7_commonDivisor : MethodName := ⟨RX7, "commonDivisor", "(JJ)J"⟩
def RX8 : String := "ClosedFeuds$Page"
def TX8 : u_T := fun k => match k with
  | 0 => ("ClosedFeuds$Page", "codes", "[I", true)
  | 1 => ("ClosedFeuds$Page", "length", "I", false)
  | 2 => ("ClosedFeuds$Page", "faultPlace", "I", false)
  | _ => ("ClosedFeuds$Page", "stageAtEnd", "I", false)
def tyX8 : Nat → FieldType := fun k => match k with
  | 0 => .array .int
  | 1 => .int
  | 2 => .int
  | _ => .int
abbrev wsX80 : List Cond := u_ws RX8 TX8 4
theorem nmX8 : ∀ a, a < 4 → ∀ b, b < 4 → a ≠ b → (TX8 a).2.1 ≠ (TX8 b).2.1 := by decide +kernel
theorem tyX8_ok : ∀ k, k < 4 → parseFieldDescriptor (TX8 k).2.2.1 = some (tyX8 k) := by decide +kernel
abbrev cX8_init : ByteArray := prog_10_method_1_code
def yX8_init : MethodName := ⟨RX8, "<init>", "()V"⟩
abbrev cX8_write : ByteArray := prog_10_method_2_code
def yX8_write : MethodName := ⟨RX8, "write", "(I)Z"⟩
abbrev cX8_wipe : ByteArray := prog_10_method_3_code
def yX8_wipe : MethodName := ⟨RX8, "wipe", "()I"⟩
abbrev cX8_codeAt : ByteArray := prog_10_method_4_code
def yX8_codeAt : MethodName := ⟨RX8, "codeAt", "(I)I"⟩
abbrev cX8_isList : ByteArray := prog_10_method_5_code
def yX8_isList : MethodName := ⟨RX8, "isList", "()Z"⟩
abbrev cX8_scan : ByteArray := prog_10_method_6_code
def yX8_scan : MethodName := ⟨RX8, "scan", "()V"⟩
abbrev cX8_stageBehind : ByteArray := prog_10_method_7_code
def yX8_stageBehind : MethodName := ⟨RX8, "stageBehind", "(III)I"⟩
abbrev cX8_namesPerson : ByteArray := prog_10_method_8_code
def yX8_namesPerson : MethodName := ⟨RX8, "namesPerson", "(I)Z"⟩
def RX9 : String := "ClosedFeuds$Pig"
def TX9 : u_T := fun k => match k with
  | _ => ("ClosedFeuds$Feud", "worth", "I", true)
def tyX9 : Nat → FieldType := fun k => match k with
  | _ => .int
abbrev wsX90 : List Cond := u_ws RX9 TX9 1
theorem nmX9 : ∀ a, a < 1 → ∀ b, b < 1 → a ≠ b → (TX9 a).2.1 ≠ (TX9 b).2.1 := by decide +kernel
theorem tyX9_ok : ∀ k, k < 1 → parseFieldDescriptor (TX9 k).2.2.1 = some (tyX9 k) := by decide +kernel
abbrev cX9_init : ByteArray := prog_11_method_1_code
def yX9_init : MethodName := ⟨RX9, "<init>", "(I)V"⟩
abbrev cX9_kind : ByteArray := prog_11_method_2_code
def yX9_kind : MethodName := ⟨RX9, "kind", "()I"⟩
abbrev cX9_fullPrice : ByteArray := prog_11_method_3_code
def yX9_fullPrice : MethodName := ⟨RX9, "fullPrice", "()I"⟩
def RX10 : String := "ClosedFeuds$TheList"
def TX10 : u_T := fun k => match k with
  | 0 => ("ClosedFeuds$TheList", "feuds", "[LClosedFeuds$Feud;", true)
  | 1 => ("ClosedFeuds$TheList", "firstOwners", "[I", true)
  | _ => ("ClosedFeuds$TheList", "size", "I", false)
def tyX10 : Nat → FieldType := fun k => match k with
  | 0 => .array (.object "ClosedFeuds$Feud")
  | 1 => .array .int
  | _ => .int
abbrev wsX100 : List Cond := u_ws RX10 TX10 3
theorem nmX10 : ∀ a, a < 3 → ∀ b, b < 3 → a ≠ b → (TX10 a).2.1 ≠ (TX10 b).2.1 := by decide +kernel
theorem tyX10_ok : ∀ k, k < 3 → parseFieldDescriptor (TX10 k).2.2.1 = some (tyX10 k) := by decide +kernel
abbrev cX10_init : ByteArray := prog_12_method_1_code
def yX10_init : MethodName := ⟨RX10, "<init>", "()V"⟩
abbrev cX10_readFrom : ByteArray := prog_12_method_2_code
def yX10_readFrom : MethodName := ⟨RX10, "readFrom", "(LClosedFeuds$Page;)V"⟩
abbrev cX10_kindOfLetter : ByteArray := prog_12_method_3_code
def yX10_kindOfLetter : MethodName := ⟨RX10, "kindOfLetter", "(I)I"⟩
abbrev cX10_feudOf : ByteArray := prog_12_method_4_code
def yX10_feudOf : MethodName := ⟨RX10, "feudOf", "(II)LClosedFeuds$Feud;"⟩
def RX11 : String := "ClosedFeuds"
def TX11 : u_T := fun k => match k with
  | 0 => ("ClosedFeuds", "page", "LClosedFeuds$Page;", true)
  | 1 => ("ClosedFeuds", "theList", "LClosedFeuds$TheList;", true)
  | 2 => ("ClosedFeuds", "isle", "LClosedFeuds$Isle;", true)
  | 3 => ("ClosedFeuds", "kept", "LClosedFeuds$Isle;", true)
  | 4 => ("ClosedFeuds", "trial", "LClosedFeuds$Isle;", true)
  | 5 => ("ClosedFeuds", "matchmaker", "LClosedFeuds$Matchmaker;", true)
  | 6 => ("ClosedFeuds", "odds", "LClosedFeuds$Odds;", true)
  | 7 => ("ClosedFeuds", "draws", "LClosedFeuds$Draws;", true)
  | 8 => ("ClosedFeuds", "imageStands", "Z", false)
  | _ => ("ClosedFeuds", "listsRead", "I", false)
def tyX11 : Nat → FieldType := fun k => match k with
  | 0 => .object "ClosedFeuds$Page"
  | 1 => .object "ClosedFeuds$TheList"
  | 2 => .object "ClosedFeuds$Isle"
  | 3 => .object "ClosedFeuds$Isle"
  | 4 => .object "ClosedFeuds$Isle"
  | 5 => .object "ClosedFeuds$Matchmaker"
  | 6 => .object "ClosedFeuds$Odds"
  | 7 => .object "ClosedFeuds$Draws"
  | 8 => .boolean
  | _ => .int
abbrev wsX110 : List Cond := u_ws RX11 TX11 10
theorem nmX11 : ∀ a, a < 10 → ∀ b, b < 10 → a ≠ b → (TX11 a).2.1 ≠ (TX11 b).2.1 := by decide +kernel
theorem tyX11_ok : ∀ k, k < 10 → parseFieldDescriptor (TX11 k).2.2.1 = some (tyX11 k) := by decide +kernel
abbrev cX11_init : ByteArray := prog_1_method_1_code
def yX11_init : MethodName := ⟨RX11, "<init>", "()V"⟩
abbrev cX11_letter : ByteArray := prog_1_method_2_code
def yX11_letter : MethodName := ⟨RX11, "letter", "(I)I"⟩
abbrev cX11_blank : ByteArray := prog_1_method_3_code
def yX11_blank : MethodName := ⟨RX11, "blank", "()I"⟩
abbrev cX11_fault : ByteArray := prog_1_method_4_code
def yX11_fault : MethodName := ⟨RX11, "fault", "()I"⟩
abbrev cX11_list : ByteArray := prog_1_method_5_code
def yX11_list : MethodName := ⟨RX11, "list", "()I"⟩
abbrev cX11_about : ByteArray := prog_1_method_6_code
def yX11_about : MethodName := ⟨RX11, "about", "(II)I"⟩
abbrev cX11_as : ByteArray := prog_1_method_7_code
def yX11_as : MethodName := ⟨RX11, "as", "(II)I"⟩
abbrev cX11_person : ByteArray := prog_1_method_8_code
def yX11_person : MethodName := ⟨RX11, "person", "(II)I"⟩
abbrev cX11_heir : ByteArray := prog_1_method_9_code
def yX11_heir : MethodName := ⟨RX11, "heir", "(II)I"⟩
abbrev cX11_buy : ByteArray := prog_1_method_10_code
def yX11_buy : MethodName := ⟨RX11, "buy", "(III)I"⟩
abbrev cX11_lend : ByteArray := prog_1_method_11_code
def yX11_lend : MethodName := ⟨RX11, "lend", "(III)I"⟩
abbrev cX11_peace : ByteArray := prog_1_method_12_code
def yX11_peace : MethodName := ⟨RX11, "peace", "(I)I"⟩
abbrev cX11_death : ByteArray := prog_1_method_13_code
def yX11_death : MethodName := ⟨RX11, "death", "(I)I"⟩
abbrev cX11_mayHarm : ByteArray := prog_1_method_14_code
def yX11_mayHarm : MethodName := ⟨RX11, "mayHarm", "(II)I"⟩
abbrev cX11_harm : ByteArray := prog_1_method_15_code
def yX11_harm : MethodName := ⟨RX11, "harm", "(II)I"⟩
abbrev cX11_season : ByteArray := prog_1_method_16_code
def yX11_season : MethodName := ⟨RX11, "season", "()I"⟩
abbrev cX11_comeBy : ByteArray := prog_1_method_17_code
def yX11_comeBy : MethodName := ⟨RX11, "comeBy", "(III)I"⟩
abbrev cX11_marry : ByteArray := prog_1_method_18_code
def yX11_marry : MethodName := ⟨RX11, "marry", "(I)I"⟩
abbrev cX11_wills : ByteArray := prog_1_method_19_code
def yX11_wills : MethodName := ⟨RX11, "wills", "(II)I"⟩
abbrev cX11_left : ByteArray := prog_1_method_20_code
def yX11_left : MethodName := ⟨RX11, "left", "(III)J"⟩
abbrev cX11_register : ByteArray := prog_1_method_21_code
def yX11_register : MethodName := ⟨RX11, "register", "(II)I"⟩
abbrev cX11_forget : ByteArray := prog_1_method_22_code
def yX11_forget : MethodName := ⟨RX11, "forget", "()I"⟩
abbrev cX11_lapsed : ByteArray := prog_1_method_23_code
def yX11_lapsed : MethodName := ⟨RX11, "lapsed", "(I)I"⟩
abbrev cX11_years : ByteArray := prog_1_method_24_code
def yX11_years : MethodName := ⟨RX11, "years", "(III)I"⟩
abbrev cX11_image : ByteArray := prog_1_method_25_code
def yX11_image : MethodName := ⟨RX11, "image", "()I"⟩
abbrev cX11_restore : ByteArray := prog_1_method_26_code
def yX11_restore : MethodName := ⟨RX11, "restore", "()I"⟩
abbrev cX11_count : ByteArray := prog_1_method_27_code
def yX11_count : MethodName := ⟨RX11, "count", "(I)I"⟩
abbrev cX11_digest : ByteArray := prog_1_method_28_code
def yX11_digest : MethodName := ⟨RX11, "digest", "()J"⟩
abbrev cX11_fold : ByteArray := prog_1_method_29_code
def yX11_fold : MethodName := ⟨RX11, "fold", "(JJ)J"⟩
abbrev cX11_foldFeuds : ByteArray := prog_1_method_30_code
def yX11_foldFeuds : MethodName := ⟨RX11, "foldFeuds", "(J)J"⟩
abbrev cX11_foldPeople : ByteArray := prog_1_method_31_code
def yX11_foldPeople : MethodName := ⟨RX11, "foldPeople", "(J)J"⟩
abbrev cX11_foldHarming : ByteArray := prog_1_method_32_code
def yX11_foldHarming : MethodName := ⟨RX11, "foldHarming", "(J)J"⟩
abbrev cX11_hasList : ByteArray := prog_1_method_33_code
def yX11_hasList : MethodName := ⟨RX11, "hasList", "()Z"⟩
abbrev cX11_isFeud : ByteArray := prog_1_method_34_code
def yX11_isFeud : MethodName := ⟨RX11, "isFeud", "(I)Z"⟩
abbrev cX11_isPerson : ByteArray := prog_1_method_35_code
def yX11_isPerson : MethodName := ⟨RX11, "isPerson", "(I)Z"⟩
abbrev cX11_areTwo : ByteArray := prog_1_method_36_code
def yX11_areTwo : MethodName := ⟨RX11, "areTwo", "(II)Z"⟩
abbrev cX11_isBit : ByteArray := prog_1_method_37_code
def yX11_isBit : MethodName := ⟨RX11, "isBit", "(I)Z"⟩
abbrev cX11_isOfKind : ByteArray := prog_1_method_38_code
def yX11_isOfKind : MethodName := ⟨RX11, "isOfKind", "(LClosedFeuds$Feud;I)Z"⟩
abbrev cX11_times : ByteArray := prog_1_method_39_code
def yX11_times : MethodName := ⟨RX11, "times", "([III)I"⟩
abbrev cX11_cheaper : ByteArray := prog_1_method_40_code
def yX11_cheaper : MethodName := ⟨RX11, "cheaper", "(II)I"⟩
abbrev cX11_costOfFeud : ByteArray := prog_1_method_41_code
def yX11_costOfFeud : MethodName := ⟨RX11, "costOfFeud", "(III)I"⟩
abbrev cX11_liveYear : ByteArray := prog_1_method_42_code
def yX11_liveYear : MethodName := ⟨RX11, "liveYear", "()V"⟩
def RX12 : String := "ClosedFeudsModel"
def TX12 : u_T := fun k => match k with
  | 0 => ("ClosedFeudsModel", "page", "[I", true)
  | 1 => ("ClosedFeudsModel", "pageMany", "I", false)
  | 2 => ("ClosedFeudsModel", "read", "[I", true)
  | 3 => ("ClosedFeudsModel", "readMany", "I", false)
  | 4 => ("ClosedFeudsModel", "state", "I", false)
  | 5 => ("ClosedFeudsModel", "feuds", "I", false)
  | 6 => ("ClosedFeudsModel", "listsRead", "I", false)
  | 7 => ("ClosedFeudsModel", "rows", "[I", true)
  | 8 => ("ClosedFeudsModel", "men", "[I", true)
  | 9 => ("ClosedFeudsModel", "harmMany", "I", false)
  | 10 => ("ClosedFeudsModel", "harms", "[I", true)
  | 11 => ("ClosedFeudsModel", "savedRows", "[I", true)
  | 12 => ("ClosedFeudsModel", "savedMen", "[I", true)
  | 13 => ("ClosedFeudsModel", "marks", "[I", true)
  | 14 => ("ClosedFeudsModel", "odds", "[J", true)
  | 15 => ("ClosedFeudsModel", "registerMany", "I", false)
  | 16 => ("ClosedFeudsModel", "registers", "[I", true)
  | 17 => ("ClosedFeudsModel", "seedNow", "I", false)
  | 18 => ("ClosedFeudsModel", "keptList", "I", false)
  | 19 => ("ClosedFeudsModel", "keptHarms", "I", false)
  | 20 => ("ClosedFeudsModel", "keptRegisters", "I", false)
  | 21 => ("ClosedFeudsModel", "keptRows", "[I", true)
  | 22 => ("ClosedFeudsModel", "keptMen", "[I", true)
  | 23 => ("ClosedFeudsModel", "keptHarmRows", "[I", true)
  | 24 => ("ClosedFeudsModel", "keptRegisterRows", "[I", true)
  | _ => ("ClosedFeudsModel", "hash", "J", false)
def tyX12 : Nat → FieldType := fun k => match k with
  | 0 => .array .int
  | 1 => .int
  | 2 => .array .int
  | 3 => .int
  | 4 => .int
  | 5 => .int
  | 6 => .int
  | 7 => .array .int
  | 8 => .array .int
  | 9 => .int
  | 10 => .array .int
  | 11 => .array .int
  | 12 => .array .int
  | 13 => .array .int
  | 14 => .array .long
  | 15 => .int
  | 16 => .array .int
  | 17 => .int
  | 18 => .int
  | 19 => .int
  | 20 => .int
  | 21 => .array .int
  | 22 => .array .int
  | 23 => .array .int
  | 24 => .array .int
  | _ => .long
abbrev wsX120 : List Cond := u_ws RX12 TX12 26
theorem nmX12 : ∀ a, a < 26 → ∀ b, b < 26 → a ≠ b → (TX12 a).2.1 ≠ (TX12 b).2.1 := by decide +kernel
theorem tyX12_ok : ∀ k, k < 26 → parseFieldDescriptor (TX12 k).2.2.1 = some (tyX12 k) := by decide +kernel
abbrev cX12_init : ByteArray := prog_14_method_1_code
def yX12_init : MethodName := ⟨RX12, "<init>", "()V"⟩
abbrev cX12_in : ByteArray := prog_14_method_2_code
def yX12_in : MethodName := ⟨RX12, "in", "(JJJ)Z"⟩
abbrev cX12_letter : ByteArray := prog_14_method_3_code
def yX12_letter : MethodName := ⟨RX12, "letter", "(I)I"⟩
abbrev cX12_blank : ByteArray := prog_14_method_4_code
def yX12_blank : MethodName := ⟨RX12, "blank", "()I"⟩
abbrev cX12_kindBy : ByteArray := prog_14_method_5_code
def yX12_kindBy : MethodName := ⟨RX12, "kindBy", "(I)I"⟩
abbrev cX12_go : ByteArray := prog_14_method_6_code
def yX12_go : MethodName := ⟨RX12, "go", "(I)Z"⟩
abbrev cX12_faultOf : ByteArray := prog_14_method_7_code
def yX12_faultOf : MethodName := ⟨RX12, "faultOf", "()I"⟩
abbrev cX12_fault : ByteArray := prog_14_method_8_code
def yX12_fault : MethodName := ⟨RX12, "fault", "()I"⟩
abbrev cX12_peopleAsAtFirst : ByteArray := prog_14_method_9_code
def yX12_peopleAsAtFirst : MethodName := ⟨RX12, "peopleAsAtFirst", "()V"⟩
abbrev cX12_list : ByteArray := prog_14_method_10_code
def yX12_list : MethodName := ⟨RX12, "list", "()I"⟩
abbrev cX12_lacks : ByteArray := prog_14_method_11_code
def yX12_lacks : MethodName := ⟨RX12, "lacks", "()Z"⟩
abbrev cX12_isFeud : ByteArray := prog_14_method_12_code
def yX12_isFeud : MethodName := ⟨RX12, "isFeud", "(I)Z"⟩
abbrev cX12_isPerson : ByteArray := prog_14_method_13_code
def yX12_isPerson : MethodName := ⟨RX12, "isPerson", "(I)Z"⟩
abbrev cX12_arePair : ByteArray := prog_14_method_14_code
def yX12_arePair : MethodName := ⟨RX12, "arePair", "(II)Z"⟩
abbrev cX12_isStruck : ByteArray := prog_14_method_15_code
def yX12_isStruck : MethodName := ⟨RX12, "isStruck", "(I)Z"⟩
abbrev cX12_isAlive : ByteArray := prog_14_method_16_code
def yX12_isAlive : MethodName := ⟨RX12, "isAlive", "(I)Z"⟩
abbrev cX12_ownerOf : ByteArray := prog_14_method_17_code
def yX12_ownerOf : MethodName := ⟨RX12, "ownerOf", "(II)I"⟩
abbrev cX12_borrowerOf : ByteArray := prog_14_method_18_code
def yX12_borrowerOf : MethodName := ⟨RX12, "borrowerOf", "(II)I"⟩
abbrev cX12_onSide : ByteArray := prog_14_method_19_code
def yX12_onSide : MethodName := ⟨RX12, "onSide", "(II)I"⟩
abbrev cX12_hasToDo : ByteArray := prog_14_method_20_code
def yX12_hasToDo : MethodName := ⟨RX12, "hasToDo", "(II)Z"⟩
abbrev cX12_priceOf : ByteArray := prog_14_method_21_code
def yX12_priceOf : MethodName := ⟨RX12, "priceOf", "(II)I"⟩
abbrev cX12_tell : ByteArray := prog_14_method_22_code
def yX12_tell : MethodName := ⟨RX12, "tell", "(II)I"⟩
abbrev cX12_about : ByteArray := prog_14_method_23_code
def yX12_about : MethodName := ⟨RX12, "about", "(II)I"⟩
abbrev cX12_as : ByteArray := prog_14_method_24_code
def yX12_as : MethodName := ⟨RX12, "as", "(II)I"⟩
abbrev cX12_sidesOf : ByteArray := prog_14_method_25_code
def yX12_sidesOf : MethodName := ⟨RX12, "sidesOf", "(I)I"⟩
abbrev cX12_harmsBy : ByteArray := prog_14_method_26_code
def yX12_harmsBy : MethodName := ⟨RX12, "harmsBy", "(II)I"⟩
abbrev cX12_tellMan : ByteArray := prog_14_method_27_code
def yX12_tellMan : MethodName := ⟨RX12, "tellMan", "(II)I"⟩
abbrev cX12_person : ByteArray := prog_14_method_28_code
def yX12_person : MethodName := ⟨RX12, "person", "(II)I"⟩
abbrev cX12_heir : ByteArray := prog_14_method_29_code
def yX12_heir : MethodName := ⟨RX12, "heir", "(II)I"⟩
abbrev cX12_capped : ByteArray := prog_14_method_30_code
def yX12_capped : MethodName := ⟨RX12, "capped", "(I)I"⟩
abbrev cX12_canBuy : ByteArray := prog_14_method_31_code
def yX12_canBuy : MethodName := ⟨RX12, "canBuy", "(III)Z"⟩
abbrev cX12_bought : ByteArray := prog_14_method_32_code
def yX12_bought : MethodName := ⟨RX12, "bought", "(III)I"⟩
abbrev cX12_buy : ByteArray := prog_14_method_33_code
def yX12_buy : MethodName := ⟨RX12, "buy", "(III)I"⟩
abbrev cX12_lend : ByteArray := prog_14_method_34_code
def yX12_lend : MethodName := ⟨RX12, "lend", "(III)I"⟩
abbrev cX12_struckMany : ByteArray := prog_14_method_35_code
def yX12_struckMany : MethodName := ⟨RX12, "struckMany", "()I"⟩
abbrev cX12_peace : ByteArray := prog_14_method_36_code
def yX12_peace : MethodName := ⟨RX12, "peace", "(I)I"⟩
abbrev cX12_heirOf : ByteArray := prog_14_method_37_code
def yX12_heirOf : MethodName := ⟨RX12, "heirOf", "(I)I"⟩
abbrev cX12_died : ByteArray := prog_14_method_38_code
def yX12_died : MethodName := ⟨RX12, "died", "(I)I"⟩
abbrev cX12_death : ByteArray := prog_14_method_39_code
def yX12_death : MethodName := ⟨RX12, "death", "(I)I"⟩
abbrev cX12_areOn : ByteArray := prog_14_method_40_code
def yX12_areOn : MethodName := ⟨RX12, "areOn", "(III)Z"⟩
abbrev cX12_harmOf : ByteArray := prog_14_method_41_code
def yX12_harmOf : MethodName := ⟨RX12, "harmOf", "(II)I"⟩
abbrev cX12_mayHarm : ByteArray := prog_14_method_42_code
def yX12_mayHarm : MethodName := ⟨RX12, "mayHarm", "(II)I"⟩
abbrev cX12_harm : ByteArray := prog_14_method_43_code
def yX12_harm : MethodName := ⟨RX12, "harm", "(II)I"⟩
abbrev cX12_ended : ByteArray := prog_14_method_44_code
def yX12_ended : MethodName := ⟨RX12, "ended", "()I"⟩
abbrev cX12_season : ByteArray := prog_14_method_45_code
def yX12_season : MethodName := ⟨RX12, "season", "()I"⟩
abbrev cX12_copy : ByteArray := prog_14_method_46_code
def yX12_copy : MethodName := ⟨RX12, "copy", "([I[I)V"⟩
abbrev cX12_save : ByteArray := prog_14_method_47_code
def yX12_save : MethodName := ⟨RX12, "save", "()V"⟩
abbrev cX12_layBack : ByteArray := prog_14_method_48_code
def yX12_layBack : MethodName := ⟨RX12, "layBack", "()V"⟩
abbrev cX12_getsOn : ByteArray := prog_14_method_49_code
def yX12_getsOn : MethodName := ⟨RX12, "getsOn", "(III)I"⟩
abbrev cX12_bothOn : ByteArray := prog_14_method_50_code
def yX12_bothOn : MethodName := ⟨RX12, "bothOn", "(III)I"⟩
abbrev cX12_comeBy : ByteArray := prog_14_method_51_code
def yX12_comeBy : MethodName := ⟨RX12, "comeBy", "(III)I"⟩
abbrev cX12_feudsOf : ByteArray := prog_14_method_52_code
def yX12_feudsOf : MethodName := ⟨RX12, "feudsOf", "(II)I"⟩
abbrev cX12_marryOf : ByteArray := prog_14_method_53_code
def yX12_marryOf : MethodName := ⟨RX12, "marryOf", "(I)I"⟩
abbrev cX12_marry : ByteArray := prog_14_method_54_code
def yX12_marry : MethodName := ⟨RX12, "marry", "(I)I"⟩
abbrev cX12_wills : ByteArray := prog_14_method_55_code
def yX12_wills : MethodName := ⟨RX12, "wills", "(II)I"⟩
abbrev cX12_term : ByteArray := prog_14_method_56_code
def yX12_term : MethodName := ⟨RX12, "term", "(JJI)J"⟩
abbrev cX12_left : ByteArray := prog_14_method_57_code
def yX12_left : MethodName := ⟨RX12, "left", "(III)J"⟩
abbrev cX12_register : ByteArray := prog_14_method_58_code
def yX12_register : MethodName := ⟨RX12, "register", "(II)I"⟩
abbrev cX12_forget : ByteArray := prog_14_method_59_code
def yX12_forget : MethodName := ⟨RX12, "forget", "()I"⟩
abbrev cX12_isLapsedBy : ByteArray := prog_14_method_60_code
def yX12_isLapsedBy : MethodName := ⟨RX12, "isLapsedBy", "(II)Z"⟩
abbrev cX12_lapsedOf : ByteArray := prog_14_method_61_code
def yX12_lapsedOf : MethodName := ⟨RX12, "lapsedOf", "(I)I"⟩
abbrev cX12_lapsed : ByteArray := prog_14_method_62_code
def yX12_lapsed : MethodName := ⟨RX12, "lapsed", "(I)I"⟩
abbrev cX12_draw : ByteArray := prog_14_method_63_code
def yX12_draw : MethodName := ⟨RX12, "draw", "(I)I"⟩
abbrev cX12_aliveMany : ByteArray := prog_14_method_64_code
def yX12_aliveMany : MethodName := ⟨RX12, "aliveMany", "()I"⟩
abbrev cX12_openMany : ByteArray := prog_14_method_65_code
def yX12_openMany : MethodName := ⟨RX12, "openMany", "()I"⟩
abbrev cX12_years : ByteArray := prog_14_method_66_code
def yX12_years : MethodName := ⟨RX12, "years", "(III)I"⟩
abbrev cX12_image : ByteArray := prog_14_method_67_code
def yX12_image : MethodName := ⟨RX12, "image", "()I"⟩
abbrev cX12_restore : ByteArray := prog_14_method_68_code
def yX12_restore : MethodName := ⟨RX12, "restore", "()I"⟩
abbrev cX12_lentMany : ByteArray := prog_14_method_69_code
def yX12_lentMany : MethodName := ⟨RX12, "lentMany", "()I"⟩
abbrev cX12_countOf : ByteArray := prog_14_method_70_code
def yX12_countOf : MethodName := ⟨RX12, "countOf", "(I)I"⟩
abbrev cX12_count : ByteArray := prog_14_method_71_code
def yX12_count : MethodName := ⟨RX12, "count", "(I)I"⟩
abbrev cX12_say : ByteArray := prog_14_method_72_code
def yX12_say : MethodName := ⟨RX12, "say", "(J)V"⟩
abbrev cX12_digest : ByteArray := prog_14_method_73_code
def yX12_digest : MethodName := ⟨RX12, "digest", "()J"⟩
def RJ6 : String := "java/lang/Integer"
def TJ6 : u_T := fun k => match k with
  | _ => ("", "", "", false)
def tyJ6 : Nat → FieldType := fun k => match k with
  | _ => .int
abbrev cJ6_bitCount_0f7a4 : ByteArray := prog_15_method_49_code
def yJ6_bitCount_0f7a4 : MethodName := ⟨RJ6, "bitCount", "(I)I"⟩
def RJ9 : String := "java/lang/Math"
def TJ9 : u_T := fun k => match k with
  | _ => ("", "", "", false)
def tyJ9 : Nat → FieldType := fun k => match k with
  | _ => .int
abbrev cJ9_max_7cf53 : ByteArray := prog_16_method_65_code
def yJ9_max_7cf53 : MethodName := ⟨RJ9, "max", "(II)I"⟩
abbrev cJ9_min_7cf53 : ByteArray := prog_16_method_69_code
def yJ9_min_7cf53 : MethodName := ⟨RJ9, "min", "(II)I"⟩
def RJ10 : String := "java/lang/System"
def TJ10 : u_T := fun k => match k with
  | _ => ("", "", "", false)
def tyJ10 : Nat → FieldType := fun k => match k with
  | _ => .int
def RJ7 : String := "java/util/Arrays"
def TJ7 : u_T := fun k => match k with
  | _ => ("", "", "", false)
def tyJ7 : Nat → FieldType := fun k => match k with
  | _ => .int
abbrev cJ7_fill_d0a16 : ByteArray := prog_18_method_101_code
def yJ7_fill_d0a16 : MethodName := ⟨RJ7, "fill", "([JJ)V"⟩
def RL : String := "ClosedFeudsLaw"
abbrev cL_law : ByteArray := code
def yL_law : MethodName := ⟨RL, "law", "([I)Z"⟩
abbrev vwCl : List vw_C := [(RX0, TX0, 1), (RX1, TX1, 1), (RX2, TX2, 1), (RX3, TX3, 1), (RX4, TX4, 13), (RX5, TX5, 1), (RX6, TX6, 4), (RX7, TX7, 2), (RX8, TX8, 4), (RX9, TX9, 1), (RX10, TX10, 3), (RX11, TX11, 10), (RX12, TX12, 26)]
end
section
theorem dX0_init_0 : decode cX0_init 0 = .ok (.aload_n 0, 1) := by decide +kernel
theorem dX0_init_1 : decode cX0_init 1 = .ok (.iload_n 1, 1) := by decide +kernel
theorem dX0_init_2 : decode cX0_init 2 = .ok (.invokespecial 3, 3) := by decide +kernel
theorem dX0_init_5 : decode cX0_init 5 = .ok (.return_, 1) := by decide +kernel
theorem dX0_kind_0 : decode cX0_kind 0 = .ok (.iconst 1, 1) := by decide +kernel
theorem dX0_kind_1 : decode cX0_kind 1 = .ok (.ireturn, 1) := by decide +kernel
theorem dX0_isLendable_0 : decode cX0_isLendable 0 = .ok (.iconst 1, 1) := by decide +kernel
theorem dX0_isLendable_1 : decode cX0_isLendable 1 = .ok (.ireturn, 1) := by decide +kernel
theorem dX1_init_0 : decode cX1_init 0 = .ok (.aload_n 0, 1) := by decide +kernel
theorem dX1_init_1 : decode cX1_init 1 = .ok (.invokespecial 1, 3) := by decide +kernel
theorem dX1_init_4 : decode cX1_init 4 = .ok (.aload_n 0, 1) := by decide +kernel
theorem dX1_init_5 : decode cX1_init 5 = .ok (.iconst 0, 1) := by decide +kernel
theorem dX1_init_6 : decode cX1_init 6 = .ok (.putfield 7, 3) := by decide +kernel
theorem dX1_init_9 : decode cX1_init 9 = .ok (.return_, 1) := by decide +kernel
theorem dX1_below_0 : decode cX1_below 0 = .ok (.aload_n 0, 1) := by decide +kernel
theorem dX1_below_1 : decode cX1_below 1 = .ok (.ldc2_w 13, 3) := by decide +kernel
theorem dX1_below_4 : decode cX1_below 4 = .ok (.aload_n 0, 1) := by decide +kernel
theorem dX1_below_5 : decode cX1_below 5 = .ok (.getfield 7, 3) := by decide +kernel
theorem dX1_below_8 : decode cX1_below 8 = .ok (.i2l, 1) := by decide +kernel
theorem dX1_below_9 : decode cX1_below 9 = .ok (.lmul, 1) := by decide +kernel
theorem dX1_below_10 : decode cX1_below 10 = .ok (.ldc2_w 15, 3) := by decide +kernel
theorem dX1_below_13 : decode cX1_below 13 = .ok (.ladd, 1) := by decide +kernel
theorem dX1_below_14 : decode cX1_below 14 = .ok (.ldc2_w 17, 3) := by decide +kernel
theorem dX1_below_17 : decode cX1_below 17 = .ok (.land, 1) := by decide +kernel
theorem dX1_below_18 : decode cX1_below 18 = .ok (.l2i, 1) := by decide +kernel
theorem dX1_below_19 : decode cX1_below 19 = .ok (.putfield 7, 3) := by decide +kernel
theorem dX1_below_22 : decode cX1_below 22 = .ok (.iload_n 1, 1) := by decide +kernel
theorem dX1_below_23 : decode cX1_below 23 = .ok (.ifCond .gt 7, 3) := by decide +kernel
theorem dX1_below_26 : decode cX1_below 26 = .ok (.iconst 0, 1) := by decide +kernel
theorem dX1_below_27 : decode cX1_below 27 = .ok (.goto 12, 3) := by decide +kernel
theorem dX1_below_30 : decode cX1_below 30 = .ok (.aload_n 0, 1) := by decide +kernel
theorem dX1_below_31 : decode cX1_below 31 = .ok (.getfield 7, 3) := by decide +kernel
theorem dX1_below_34 : decode cX1_below 34 = .ok (.ldc 19, 2) := by decide +kernel
theorem dX1_below_36 : decode cX1_below 36 = .ok (.idiv, 1) := by decide +kernel
theorem dX1_below_37 : decode cX1_below 37 = .ok (.iload_n 1, 1) := by decide +kernel
theorem dX1_below_38 : decode cX1_below 38 = .ok (.irem, 1) := by decide +kernel
theorem dX1_below_39 : decode cX1_below 39 = .ok (.ireturn, 1) := by decide +kernel
theorem dX2_init_0 : decode cX2_init 0 = .ok (.aload_n 0, 1) := by decide +kernel
theorem dX2_init_1 : decode cX2_init 1 = .ok (.invokespecial 3, 3) := by decide +kernel
theorem dX2_init_4 : decode cX2_init 4 = .ok (.aload_n 0, 1) := by decide +kernel
theorem dX2_init_5 : decode cX2_init 5 = .ok (.iload_n 1, 1) := by decide +kernel
theorem dX2_init_6 : decode cX2_init 6 = .ok (.putfield 9, 3) := by decide +kernel
theorem dX2_init_9 : decode cX2_init 9 = .ok (.return_, 1) := by decide +kernel
theorem dX2_kind_0 : decode cX2_kind 0 = .ok (.iconst 0, 1) := by decide +kernel
theorem dX2_kind_1 : decode cX2_kind 1 = .ok (.ireturn, 1) := by decide +kernel
theorem dX2_fullPrice_0 : decode cX2_fullPrice 0 = .ok (.aload_n 0, 1) := by decide +kernel
theorem dX2_fullPrice_1 : decode cX2_fullPrice 1 = .ok (.getfield 9, 3) := by decide +kernel
theorem dX2_fullPrice_4 : decode cX2_fullPrice 4 = .ok (.ireturn, 1) := by decide +kernel
theorem dX2_isLendable_0 : decode cX2_isLendable 0 = .ok (.iconst 0, 1) := by decide +kernel
theorem dX2_isLendable_1 : decode cX2_isLendable 1 = .ok (.ireturn, 1) := by decide +kernel
theorem dX2_mostOpenAtPeace_0 : decode cX2_mostOpenAtPeace 0 = .ok (.iconst 0, 1) := by decide +kernel
theorem dX2_mostOpenAtPeace_1 : decode cX2_mostOpenAtPeace 1 = .ok (.ireturn, 1) := by decide +kernel
theorem dX3_init_0 : decode cX3_init 0 = .ok (.aload_n 0, 1) := by decide +kernel
theorem dX3_init_1 : decode cX3_init 1 = .ok (.iload_n 1, 1) := by decide +kernel
theorem dX3_init_2 : decode cX3_init 2 = .ok (.invokespecial 3, 3) := by decide +kernel
theorem dX3_init_5 : decode cX3_init 5 = .ok (.return_, 1) := by decide +kernel
theorem dX3_kind_0 : decode cX3_kind 0 = .ok (.iconst 3, 1) := by decide +kernel
theorem dX3_kind_1 : decode cX3_kind 1 = .ok (.ireturn, 1) := by decide +kernel
theorem dX3_fullPrice_0 : decode cX3_fullPrice 0 = .ok (.iconst 2, 1) := by decide +kernel
theorem dX3_fullPrice_1 : decode cX3_fullPrice 1 = .ok (.aload_n 0, 1) := by decide +kernel
theorem dX3_fullPrice_2 : decode cX3_fullPrice 2 = .ok (.getfield 9, 3) := by decide +kernel
theorem dX3_fullPrice_5 : decode cX3_fullPrice 5 = .ok (.imul, 1) := by decide +kernel
theorem dX3_fullPrice_6 : decode cX3_fullPrice 6 = .ok (.ireturn, 1) := by decide +kernel
theorem dX3_isLendable_0 : decode cX3_isLendable 0 = .ok (.iconst 1, 1) := by decide +kernel
theorem dX3_isLendable_1 : decode cX3_isLendable 1 = .ok (.ireturn, 1) := by decide +kernel
theorem dX4_init_0 : decode cX4_init 0 = .ok (.aload_n 0, 1) := by decide +kernel
theorem dX4_init_1 : decode cX4_init 1 = .ok (.invokespecial 3, 3) := by decide +kernel
theorem dX4_init_4 : decode cX4_init 4 = .ok (.aload_n 0, 1) := by decide +kernel
theorem dX4_init_5 : decode cX4_init 5 = .ok (.bipush 6, 2) := by decide +kernel
theorem dX4_init_7 : decode cX4_init 7 = .ok (.newarray .int, 2) := by decide +kernel
theorem dX4_init_9 : decode cX4_init 9 = .ok (.putfield 9, 3) := by decide +kernel
theorem dX4_init_12 : decode cX4_init 12 = .ok (.aload_n 0, 1) := by decide +kernel
theorem dX4_init_13 : decode cX4_init 13 = .ok (.bipush 6, 2) := by decide +kernel
theorem dX4_init_15 : decode cX4_init 15 = .ok (.newarray .int, 2) := by decide +kernel
theorem dX4_init_17 : decode cX4_init 17 = .ok (.putfield 15, 3) := by decide +kernel
theorem dX4_init_20 : decode cX4_init 20 = .ok (.aload_n 0, 1) := by decide +kernel
theorem dX4_init_21 : decode cX4_init 21 = .ok (.bipush 6, 2) := by decide +kernel
theorem dX4_init_23 : decode cX4_init 23 = .ok (.newarray .boolean, 2) := by decide +kernel
theorem dX4_init_25 : decode cX4_init 25 = .ok (.putfield 18, 3) := by decide +kernel
theorem dX4_init_28 : decode cX4_init 28 = .ok (.aload_n 0, 1) := by decide +kernel
theorem dX4_init_29 : decode cX4_init 29 = .ok (.bipush 16, 2) := by decide +kernel
theorem dX4_init_31 : decode cX4_init 31 = .ok (.newarray .int, 2) := by decide +kernel
theorem dX4_init_33 : decode cX4_init 33 = .ok (.putfield 22, 3) := by decide +kernel
theorem dX4_init_36 : decode cX4_init 36 = .ok (.aload_n 0, 1) := by decide +kernel
theorem dX4_init_37 : decode cX4_init 37 = .ok (.bipush 16, 2) := by decide +kernel
theorem dX4_init_39 : decode cX4_init 39 = .ok (.newarray .int, 2) := by decide +kernel
theorem dX4_init_41 : decode cX4_init 41 = .ok (.putfield 25, 3) := by decide +kernel
theorem dX4_init_44 : decode cX4_init 44 = .ok (.aload_n 0, 1) := by decide +kernel
theorem dX4_init_45 : decode cX4_init 45 = .ok (.bipush 8, 2) := by decide +kernel
theorem dX4_init_47 : decode cX4_init 47 = .ok (.newarray .boolean, 2) := by decide +kernel
theorem dX4_init_49 : decode cX4_init 49 = .ok (.putfield 28, 3) := by decide +kernel
theorem dX4_init_52 : decode cX4_init 52 = .ok (.aload_n 0, 1) := by decide +kernel
theorem dX4_init_53 : decode cX4_init 53 = .ok (.bipush 12, 2) := by decide +kernel
theorem dX4_init_55 : decode cX4_init 55 = .ok (.newarray .int, 2) := by decide +kernel
theorem dX4_init_57 : decode cX4_init 57 = .ok (.putfield 31, 3) := by decide +kernel
theorem dX4_init_60 : decode cX4_init 60 = .ok (.aload_n 0, 1) := by decide +kernel
theorem dX4_init_61 : decode cX4_init 61 = .ok (.bipush 12, 2) := by decide +kernel
theorem dX4_init_63 : decode cX4_init 63 = .ok (.newarray .int, 2) := by decide +kernel
theorem dX4_init_65 : decode cX4_init 65 = .ok (.putfield 34, 3) := by decide +kernel
theorem dX4_init_68 : decode cX4_init 68 = .ok (.aload_n 0, 1) := by decide +kernel
theorem dX4_init_69 : decode cX4_init 69 = .ok (.iconst 0, 1) := by decide +kernel
theorem dX4_init_70 : decode cX4_init 70 = .ok (.putfield 37, 3) := by decide +kernel
theorem dX4_init_73 : decode cX4_init 73 = .ok (.aload_n 0, 1) := by decide +kernel
theorem dX4_init_74 : decode cX4_init 74 = .ok (.bipush 8, 2) := by decide +kernel
theorem dX4_init_76 : decode cX4_init 76 = .ok (.newarray .int, 2) := by decide +kernel
theorem dX4_init_78 : decode cX4_init 78 = .ok (.putfield 41, 3) := by decide +kernel
theorem dX4_init_81 : decode cX4_init 81 = .ok (.aload_n 0, 1) := by decide +kernel
theorem dX4_init_82 : decode cX4_init 82 = .ok (.bipush 8, 2) := by decide +kernel
theorem dX4_init_84 : decode cX4_init 84 = .ok (.newarray .int, 2) := by decide +kernel
theorem dX4_init_86 : decode cX4_init 86 = .ok (.putfield 44, 3) := by decide +kernel
theorem dX4_init_89 : decode cX4_init 89 = .ok (.aload_n 0, 1) := by decide +kernel
theorem dX4_init_90 : decode cX4_init 90 = .ok (.iconst 0, 1) := by decide +kernel
theorem dX4_init_91 : decode cX4_init 91 = .ok (.putfield 47, 3) := by decide +kernel
theorem dX4_init_94 : decode cX4_init 94 = .ok (.aload_n 0, 1) := by decide +kernel
theorem dX4_init_95 : decode cX4_init 95 = .ok (.aload_n 1, 1) := by decide +kernel
theorem dX4_init_96 : decode cX4_init 96 = .ok (.putfield 50, 3) := by decide +kernel
theorem dX4_init_99 : decode cX4_init 99 = .ok (.aload_n 0, 1) := by decide +kernel
theorem dX4_init_100 : decode cX4_init 100 = .ok (.invokevirtual 54, 3) := by decide +kernel
theorem dX4_init_103 : decode cX4_init 103 = .ok (.return_, 1) := by decide +kernel
theorem dX4_begin_0 : decode cX4_begin 0 = .ok (.iconst 0, 1) := by decide +kernel
theorem dX4_begin_1 : decode cX4_begin 1 = .ok (.istore_n 1, 1) := by decide +kernel
theorem dX4_begin_2 : decode cX4_begin 2 = .ok (.iload_n 1, 1) := by decide +kernel
theorem dX4_begin_3 : decode cX4_begin 3 = .ok (.bipush 6, 2) := by decide +kernel
theorem dX4_begin_5 : decode cX4_begin 5 = .ok (.if_icmp .ge 31, 3) := by decide +kernel
theorem dX4_begin_8 : decode cX4_begin 8 = .ok (.aload_n 0, 1) := by decide +kernel
theorem dX4_begin_9 : decode cX4_begin 9 = .ok (.getfield 9, 3) := by decide +kernel
theorem dX4_begin_12 : decode cX4_begin 12 = .ok (.iload_n 1, 1) := by decide +kernel
theorem dX4_begin_13 : decode cX4_begin 13 = .ok (.bipush 9, 2) := by decide +kernel
theorem dX4_begin_15 : decode cX4_begin 15 = .ok (.iastore, 1) := by decide +kernel
theorem dX4_begin_16 : decode cX4_begin 16 = .ok (.aload_n 0, 1) := by decide +kernel
theorem dX4_begin_17 : decode cX4_begin 17 = .ok (.getfield 15, 3) := by decide +kernel
theorem dX4_begin_20 : decode cX4_begin 20 = .ok (.iload_n 1, 1) := by decide +kernel
theorem dX4_begin_21 : decode cX4_begin 21 = .ok (.iconst (-1), 1) := by decide +kernel
theorem dX4_begin_22 : decode cX4_begin 22 = .ok (.iastore, 1) := by decide +kernel
theorem dX4_begin_23 : decode cX4_begin 23 = .ok (.aload_n 0, 1) := by decide +kernel
theorem dX4_begin_24 : decode cX4_begin 24 = .ok (.getfield 18, 3) := by decide +kernel
theorem dX4_begin_27 : decode cX4_begin 27 = .ok (.iload_n 1, 1) := by decide +kernel
theorem dX4_begin_28 : decode cX4_begin 28 = .ok (.iconst 1, 1) := by decide +kernel
theorem dX4_begin_29 : decode cX4_begin 29 = .ok (.bastore, 1) := by decide +kernel
theorem dX4_begin_30 : decode cX4_begin 30 = .ok (.iinc 1 1, 3) := by decide +kernel
theorem dX4_begin_33 : decode cX4_begin 33 = .ok (.goto (-31), 3) := by decide +kernel
theorem dX4_begin_36 : decode cX4_begin 36 = .ok (.iconst 0, 1) := by decide +kernel
theorem dX4_begin_37 : decode cX4_begin 37 = .ok (.istore_n 1, 1) := by decide +kernel
theorem dX4_begin_38 : decode cX4_begin 38 = .ok (.iload_n 1, 1) := by decide +kernel
theorem dX4_begin_39 : decode cX4_begin 39 = .ok (.bipush 8, 2) := by decide +kernel
theorem dX4_begin_41 : decode cX4_begin 41 = .ok (.if_icmp .ge 16, 3) := by decide +kernel
theorem dX4_begin_44 : decode cX4_begin 44 = .ok (.aload_n 0, 1) := by decide +kernel
theorem dX4_begin_45 : decode cX4_begin 45 = .ok (.getfield 28, 3) := by decide +kernel
theorem dX4_begin_48 : decode cX4_begin 48 = .ok (.iload_n 1, 1) := by decide +kernel
theorem dX4_begin_49 : decode cX4_begin 49 = .ok (.iconst 0, 1) := by decide +kernel
theorem dX4_begin_50 : decode cX4_begin 50 = .ok (.bastore, 1) := by decide +kernel
theorem dX4_begin_51 : decode cX4_begin 51 = .ok (.iinc 1 1, 3) := by decide +kernel
theorem dX4_begin_54 : decode cX4_begin 54 = .ok (.goto (-16), 3) := by decide +kernel
theorem dX4_begin_57 : decode cX4_begin 57 = .ok (.iconst 0, 1) := by decide +kernel
theorem dX4_begin_58 : decode cX4_begin 58 = .ok (.istore_n 1, 1) := by decide +kernel
theorem dX4_begin_59 : decode cX4_begin 59 = .ok (.iload_n 1, 1) := by decide +kernel
theorem dX4_begin_60 : decode cX4_begin 60 = .ok (.bipush 16, 2) := by decide +kernel
theorem dX4_begin_62 : decode cX4_begin 62 = .ok (.if_icmp .ge 48, 3) := by decide +kernel
theorem dX4_begin_65 : decode cX4_begin 65 = .ok (.aload_n 0, 1) := by decide +kernel
theorem dX4_begin_66 : decode cX4_begin 66 = .ok (.getfield 22, 3) := by decide +kernel
theorem dX4_begin_69 : decode cX4_begin 69 = .ok (.iload_n 1, 1) := by decide +kernel
theorem dX4_begin_70 : decode cX4_begin 70 = .ok (.iload_n 1, 1) := by decide +kernel
theorem dX4_begin_71 : decode cX4_begin 71 = .ok (.iconst 2, 1) := by decide +kernel
theorem dX4_begin_72 : decode cX4_begin 72 = .ok (.aload_n 0, 1) := by decide +kernel
theorem dX4_begin_73 : decode cX4_begin 73 = .ok (.getfield 50, 3) := by decide +kernel
theorem dX4_begin_76 : decode cX4_begin 76 = .ok (.getfield 57, 3) := by decide +kernel
theorem dX4_begin_79 : decode cX4_begin 79 = .ok (.imul, 1) := by decide +kernel
theorem dX4_begin_80 : decode cX4_begin 80 = .ok (.if_icmp .ge 15, 3) := by decide +kernel
theorem dX4_begin_83 : decode cX4_begin 83 = .ok (.aload_n 0, 1) := by decide +kernel
theorem dX4_begin_84 : decode cX4_begin 84 = .ok (.getfield 50, 3) := by decide +kernel
theorem dX4_begin_87 : decode cX4_begin 87 = .ok (.getfield 62, 3) := by decide +kernel
theorem dX4_begin_90 : decode cX4_begin 90 = .ok (.iload_n 1, 1) := by decide +kernel
theorem dX4_begin_91 : decode cX4_begin 91 = .ok (.iaload, 1) := by decide +kernel
theorem dX4_begin_92 : decode cX4_begin 92 = .ok (.goto 4, 3) := by decide +kernel
theorem dX4_begin_95 : decode cX4_begin 95 = .ok (.iconst (-1), 1) := by decide +kernel
theorem dX4_begin_96 : decode cX4_begin 96 = .ok (.iastore, 1) := by decide +kernel
theorem dX4_begin_97 : decode cX4_begin 97 = .ok (.aload_n 0, 1) := by decide +kernel
theorem dX4_begin_98 : decode cX4_begin 98 = .ok (.getfield 25, 3) := by decide +kernel
theorem dX4_begin_101 : decode cX4_begin 101 = .ok (.iload_n 1, 1) := by decide +kernel
theorem dX4_begin_102 : decode cX4_begin 102 = .ok (.iconst (-1), 1) := by decide +kernel
theorem dX4_begin_103 : decode cX4_begin 103 = .ok (.iastore, 1) := by decide +kernel
theorem dX4_begin_104 : decode cX4_begin 104 = .ok (.iinc 1 1, 3) := by decide +kernel
theorem dX4_begin_107 : decode cX4_begin 107 = .ok (.goto (-48), 3) := by decide +kernel
theorem dX4_begin_110 : decode cX4_begin 110 = .ok (.aload_n 0, 1) := by decide +kernel
theorem dX4_begin_111 : decode cX4_begin 111 = .ok (.iconst 0, 1) := by decide +kernel
theorem dX4_begin_112 : decode cX4_begin 112 = .ok (.putfield 37, 3) := by decide +kernel
theorem dX4_begin_115 : decode cX4_begin 115 = .ok (.aload_n 0, 1) := by decide +kernel
theorem dX4_begin_116 : decode cX4_begin 116 = .ok (.iconst 0, 1) := by decide +kernel
theorem dX4_begin_117 : decode cX4_begin 117 = .ok (.putfield 47, 3) := by decide +kernel
theorem dX4_begin_120 : decode cX4_begin 120 = .ok (.return_, 1) := by decide +kernel
theorem dX4_copyFrom_0 : decode cX4_copyFrom 0 = .ok (.iconst 0, 1) := by decide +kernel
theorem dX4_copyFrom_1 : decode cX4_copyFrom 1 = .ok (.istore_n 2, 1) := by decide +kernel
theorem dX4_copyFrom_2 : decode cX4_copyFrom 2 = .ok (.iload_n 2, 1) := by decide +kernel
theorem dX4_copyFrom_3 : decode cX4_copyFrom 3 = .ok (.bipush 6, 2) := by decide +kernel
theorem dX4_copyFrom_5 : decode cX4_copyFrom 5 = .ok (.if_icmp .ge 21, 3) := by decide +kernel
theorem dX4_copyFrom_8 : decode cX4_copyFrom 8 = .ok (.aload_n 0, 1) := by decide +kernel
theorem dX4_copyFrom_9 : decode cX4_copyFrom 9 = .ok (.getfield 18, 3) := by decide +kernel
theorem dX4_copyFrom_12 : decode cX4_copyFrom 12 = .ok (.iload_n 2, 1) := by decide +kernel
theorem dX4_copyFrom_13 : decode cX4_copyFrom 13 = .ok (.aload_n 1, 1) := by decide +kernel
theorem dX4_copyFrom_14 : decode cX4_copyFrom 14 = .ok (.getfield 18, 3) := by decide +kernel
theorem dX4_copyFrom_17 : decode cX4_copyFrom 17 = .ok (.iload_n 2, 1) := by decide +kernel
theorem dX4_copyFrom_18 : decode cX4_copyFrom 18 = .ok (.baload, 1) := by decide +kernel
theorem dX4_copyFrom_19 : decode cX4_copyFrom 19 = .ok (.bastore, 1) := by decide +kernel
theorem dX4_copyFrom_20 : decode cX4_copyFrom 20 = .ok (.iinc 2 1, 3) := by decide +kernel
theorem dX4_copyFrom_23 : decode cX4_copyFrom 23 = .ok (.goto (-21), 3) := by decide +kernel
theorem dX4_copyFrom_26 : decode cX4_copyFrom 26 = .ok (.iconst 0, 1) := by decide +kernel
theorem dX4_copyFrom_27 : decode cX4_copyFrom 27 = .ok (.istore_n 2, 1) := by decide +kernel
theorem dX4_copyFrom_28 : decode cX4_copyFrom 28 = .ok (.iload_n 2, 1) := by decide +kernel
theorem dX4_copyFrom_29 : decode cX4_copyFrom 29 = .ok (.bipush 8, 2) := by decide +kernel
theorem dX4_copyFrom_31 : decode cX4_copyFrom 31 = .ok (.if_icmp .ge 21, 3) := by decide +kernel
theorem dX4_copyFrom_34 : decode cX4_copyFrom 34 = .ok (.aload_n 0, 1) := by decide +kernel
theorem dX4_copyFrom_35 : decode cX4_copyFrom 35 = .ok (.getfield 28, 3) := by decide +kernel
theorem dX4_copyFrom_38 : decode cX4_copyFrom 38 = .ok (.iload_n 2, 1) := by decide +kernel
theorem dX4_copyFrom_39 : decode cX4_copyFrom 39 = .ok (.aload_n 1, 1) := by decide +kernel
theorem dX4_copyFrom_40 : decode cX4_copyFrom 40 = .ok (.getfield 28, 3) := by decide +kernel
theorem dX4_copyFrom_43 : decode cX4_copyFrom 43 = .ok (.iload_n 2, 1) := by decide +kernel
theorem dX4_copyFrom_44 : decode cX4_copyFrom 44 = .ok (.baload, 1) := by decide +kernel
theorem dX4_copyFrom_45 : decode cX4_copyFrom 45 = .ok (.bastore, 1) := by decide +kernel
theorem dX4_copyFrom_46 : decode cX4_copyFrom 46 = .ok (.iinc 2 1, 3) := by decide +kernel
theorem dX4_copyFrom_49 : decode cX4_copyFrom 49 = .ok (.goto (-21), 3) := by decide +kernel
theorem dX4_copyFrom_52 : decode cX4_copyFrom 52 = .ok (.aload_n 1, 1) := by decide +kernel
theorem dX4_copyFrom_53 : decode cX4_copyFrom 53 = .ok (.getfield 9, 3) := by decide +kernel
theorem dX4_copyFrom_56 : decode cX4_copyFrom 56 = .ok (.iconst 0, 1) := by decide +kernel
theorem dX4_copyFrom_57 : decode cX4_copyFrom 57 = .ok (.aload_n 0, 1) := by decide +kernel
theorem dX4_copyFrom_58 : decode cX4_copyFrom 58 = .ok (.getfield 9, 3) := by decide +kernel
theorem dX4_copyFrom_61 : decode cX4_copyFrom 61 = .ok (.iconst 0, 1) := by decide +kernel
theorem dX4_copyFrom_62 : decode cX4_copyFrom 62 = .ok (.bipush 6, 2) := by decide +kernel
theorem dX4_copyFrom_64 : decode cX4_copyFrom 64 = .ok (.invokestatic 65, 3) := by decide +kernel
theorem dX4_copyFrom_67 : decode cX4_copyFrom 67 = .ok (.aload_n 1, 1) := by decide +kernel
theorem dX4_copyFrom_68 : decode cX4_copyFrom 68 = .ok (.getfield 15, 3) := by decide +kernel
theorem dX4_copyFrom_71 : decode cX4_copyFrom 71 = .ok (.iconst 0, 1) := by decide +kernel
theorem dX4_copyFrom_72 : decode cX4_copyFrom 72 = .ok (.aload_n 0, 1) := by decide +kernel
theorem dX4_copyFrom_73 : decode cX4_copyFrom 73 = .ok (.getfield 15, 3) := by decide +kernel
theorem dX4_copyFrom_76 : decode cX4_copyFrom 76 = .ok (.iconst 0, 1) := by decide +kernel
theorem dX4_copyFrom_77 : decode cX4_copyFrom 77 = .ok (.bipush 6, 2) := by decide +kernel
theorem dX4_copyFrom_79 : decode cX4_copyFrom 79 = .ok (.invokestatic 65, 3) := by decide +kernel
theorem dX4_copyFrom_82 : decode cX4_copyFrom 82 = .ok (.aload_n 1, 1) := by decide +kernel
theorem dX4_copyFrom_83 : decode cX4_copyFrom 83 = .ok (.getfield 22, 3) := by decide +kernel
theorem dX4_copyFrom_86 : decode cX4_copyFrom 86 = .ok (.iconst 0, 1) := by decide +kernel
theorem dX4_copyFrom_87 : decode cX4_copyFrom 87 = .ok (.aload_n 0, 1) := by decide +kernel
theorem dX4_copyFrom_88 : decode cX4_copyFrom 88 = .ok (.getfield 22, 3) := by decide +kernel
theorem dX4_copyFrom_91 : decode cX4_copyFrom 91 = .ok (.iconst 0, 1) := by decide +kernel
theorem dX4_copyFrom_92 : decode cX4_copyFrom 92 = .ok (.bipush 16, 2) := by decide +kernel
theorem dX4_copyFrom_94 : decode cX4_copyFrom 94 = .ok (.invokestatic 65, 3) := by decide +kernel
theorem dX4_copyFrom_97 : decode cX4_copyFrom 97 = .ok (.aload_n 1, 1) := by decide +kernel
theorem dX4_copyFrom_98 : decode cX4_copyFrom 98 = .ok (.getfield 25, 3) := by decide +kernel
theorem dX4_copyFrom_101 : decode cX4_copyFrom 101 = .ok (.iconst 0, 1) := by decide +kernel
theorem dX4_copyFrom_102 : decode cX4_copyFrom 102 = .ok (.aload_n 0, 1) := by decide +kernel
theorem dX4_copyFrom_103 : decode cX4_copyFrom 103 = .ok (.getfield 25, 3) := by decide +kernel
theorem dX4_copyFrom_106 : decode cX4_copyFrom 106 = .ok (.iconst 0, 1) := by decide +kernel
theorem dX4_copyFrom_107 : decode cX4_copyFrom 107 = .ok (.bipush 16, 2) := by decide +kernel
theorem dX4_copyFrom_109 : decode cX4_copyFrom 109 = .ok (.invokestatic 65, 3) := by decide +kernel
theorem dX4_copyFrom_112 : decode cX4_copyFrom 112 = .ok (.aload_n 1, 1) := by decide +kernel
theorem dX4_copyFrom_113 : decode cX4_copyFrom 113 = .ok (.getfield 31, 3) := by decide +kernel
theorem dX4_copyFrom_116 : decode cX4_copyFrom 116 = .ok (.iconst 0, 1) := by decide +kernel
theorem dX4_copyFrom_117 : decode cX4_copyFrom 117 = .ok (.aload_n 0, 1) := by decide +kernel
theorem dX4_copyFrom_118 : decode cX4_copyFrom 118 = .ok (.getfield 31, 3) := by decide +kernel
theorem dX4_copyFrom_121 : decode cX4_copyFrom 121 = .ok (.iconst 0, 1) := by decide +kernel
theorem dX4_copyFrom_122 : decode cX4_copyFrom 122 = .ok (.bipush 12, 2) := by decide +kernel
theorem dX4_copyFrom_124 : decode cX4_copyFrom 124 = .ok (.invokestatic 65, 3) := by decide +kernel
theorem dX4_copyFrom_127 : decode cX4_copyFrom 127 = .ok (.aload_n 1, 1) := by decide +kernel
theorem dX4_copyFrom_128 : decode cX4_copyFrom 128 = .ok (.getfield 34, 3) := by decide +kernel
theorem dX4_copyFrom_131 : decode cX4_copyFrom 131 = .ok (.iconst 0, 1) := by decide +kernel
theorem dX4_copyFrom_132 : decode cX4_copyFrom 132 = .ok (.aload_n 0, 1) := by decide +kernel
theorem dX4_copyFrom_133 : decode cX4_copyFrom 133 = .ok (.getfield 34, 3) := by decide +kernel
theorem dX4_copyFrom_136 : decode cX4_copyFrom 136 = .ok (.iconst 0, 1) := by decide +kernel
theorem dX4_copyFrom_137 : decode cX4_copyFrom 137 = .ok (.bipush 12, 2) := by decide +kernel
theorem dX4_copyFrom_139 : decode cX4_copyFrom 139 = .ok (.invokestatic 65, 3) := by decide +kernel
theorem dX4_copyFrom_142 : decode cX4_copyFrom 142 = .ok (.aload_n 0, 1) := by decide +kernel
theorem dX4_copyFrom_143 : decode cX4_copyFrom 143 = .ok (.aload_n 1, 1) := by decide +kernel
theorem dX4_copyFrom_144 : decode cX4_copyFrom 144 = .ok (.getfield 37, 3) := by decide +kernel
theorem dX4_copyFrom_147 : decode cX4_copyFrom 147 = .ok (.putfield 37, 3) := by decide +kernel
theorem dX4_copyFrom_150 : decode cX4_copyFrom 150 = .ok (.aload_n 1, 1) := by decide +kernel
theorem dX4_copyFrom_151 : decode cX4_copyFrom 151 = .ok (.getfield 41, 3) := by decide +kernel
theorem dX4_copyFrom_154 : decode cX4_copyFrom 154 = .ok (.iconst 0, 1) := by decide +kernel
theorem dX4_copyFrom_155 : decode cX4_copyFrom 155 = .ok (.aload_n 0, 1) := by decide +kernel
theorem dX4_copyFrom_156 : decode cX4_copyFrom 156 = .ok (.getfield 41, 3) := by decide +kernel
theorem dX4_copyFrom_159 : decode cX4_copyFrom 159 = .ok (.iconst 0, 1) := by decide +kernel
theorem dX4_copyFrom_160 : decode cX4_copyFrom 160 = .ok (.bipush 8, 2) := by decide +kernel
theorem dX4_copyFrom_162 : decode cX4_copyFrom 162 = .ok (.invokestatic 65, 3) := by decide +kernel
theorem dX4_copyFrom_165 : decode cX4_copyFrom 165 = .ok (.aload_n 1, 1) := by decide +kernel
theorem dX4_copyFrom_166 : decode cX4_copyFrom 166 = .ok (.getfield 44, 3) := by decide +kernel
theorem dX4_copyFrom_169 : decode cX4_copyFrom 169 = .ok (.iconst 0, 1) := by decide +kernel
theorem dX4_copyFrom_170 : decode cX4_copyFrom 170 = .ok (.aload_n 0, 1) := by decide +kernel
theorem dX4_copyFrom_171 : decode cX4_copyFrom 171 = .ok (.getfield 44, 3) := by decide +kernel
theorem dX4_copyFrom_174 : decode cX4_copyFrom 174 = .ok (.iconst 0, 1) := by decide +kernel
theorem dX4_copyFrom_175 : decode cX4_copyFrom 175 = .ok (.bipush 8, 2) := by decide +kernel
theorem dX4_copyFrom_177 : decode cX4_copyFrom 177 = .ok (.invokestatic 65, 3) := by decide +kernel
theorem dX4_copyFrom_180 : decode cX4_copyFrom 180 = .ok (.aload_n 0, 1) := by decide +kernel
theorem dX4_copyFrom_181 : decode cX4_copyFrom 181 = .ok (.aload_n 1, 1) := by decide +kernel
theorem dX4_copyFrom_182 : decode cX4_copyFrom 182 = .ok (.getfield 47, 3) := by decide +kernel
theorem dX4_copyFrom_185 : decode cX4_copyFrom 185 = .ok (.putfield 47, 3) := by decide +kernel
theorem dX4_copyFrom_188 : decode cX4_copyFrom 188 = .ok (.return_, 1) := by decide +kernel
theorem dX4_onSide_0 : decode cX4_onSide 0 = .ok (.iconst 2, 1) := by decide +kernel
theorem dX4_onSide_1 : decode cX4_onSide 1 = .ok (.iload_n 1, 1) := by decide +kernel
theorem dX4_onSide_2 : decode cX4_onSide 2 = .ok (.imul, 1) := by decide +kernel
theorem dX4_onSide_3 : decode cX4_onSide 3 = .ok (.iload_n 2, 1) := by decide +kernel
theorem dX4_onSide_4 : decode cX4_onSide 4 = .ok (.iadd, 1) := by decide +kernel
theorem dX4_onSide_5 : decode cX4_onSide 5 = .ok (.istore_n 3, 1) := by decide +kernel
theorem dX4_onSide_6 : decode cX4_onSide 6 = .ok (.aload_n 0, 1) := by decide +kernel
theorem dX4_onSide_7 : decode cX4_onSide 7 = .ok (.getfield 25, 3) := by decide +kernel
theorem dX4_onSide_10 : decode cX4_onSide 10 = .ok (.iload_n 3, 1) := by decide +kernel
theorem dX4_onSide_11 : decode cX4_onSide 11 = .ok (.iaload, 1) := by decide +kernel
theorem dX4_onSide_12 : decode cX4_onSide 12 = .ok (.iconst (-1), 1) := by decide +kernel
theorem dX4_onSide_13 : decode cX4_onSide 13 = .ok (.if_icmp .eq 12, 3) := by decide +kernel
theorem dX4_onSide_16 : decode cX4_onSide 16 = .ok (.aload_n 0, 1) := by decide +kernel
theorem dX4_onSide_17 : decode cX4_onSide 17 = .ok (.getfield 25, 3) := by decide +kernel
theorem dX4_onSide_20 : decode cX4_onSide 20 = .ok (.iload_n 3, 1) := by decide +kernel
theorem dX4_onSide_21 : decode cX4_onSide 21 = .ok (.iaload, 1) := by decide +kernel
theorem dX4_onSide_22 : decode cX4_onSide 22 = .ok (.goto 9, 3) := by decide +kernel
theorem dX4_onSide_25 : decode cX4_onSide 25 = .ok (.aload_n 0, 1) := by decide +kernel
theorem dX4_onSide_26 : decode cX4_onSide 26 = .ok (.getfield 22, 3) := by decide +kernel
theorem dX4_onSide_29 : decode cX4_onSide 29 = .ok (.iload_n 3, 1) := by decide +kernel
theorem dX4_onSide_30 : decode cX4_onSide 30 = .ok (.iaload, 1) := by decide +kernel
theorem dX4_onSide_31 : decode cX4_onSide 31 = .ok (.ireturn, 1) := by decide +kernel
theorem dX4_lenderOf_0 : decode cX4_lenderOf 0 = .ok (.iconst 2, 1) := by decide +kernel
theorem dX4_lenderOf_1 : decode cX4_lenderOf 1 = .ok (.iload_n 1, 1) := by decide +kernel
theorem dX4_lenderOf_2 : decode cX4_lenderOf 2 = .ok (.imul, 1) := by decide +kernel
theorem dX4_lenderOf_3 : decode cX4_lenderOf 3 = .ok (.iload_n 2, 1) := by decide +kernel
theorem dX4_lenderOf_4 : decode cX4_lenderOf 4 = .ok (.iadd, 1) := by decide +kernel
theorem dX4_lenderOf_5 : decode cX4_lenderOf 5 = .ok (.istore_n 3, 1) := by decide +kernel
theorem dX4_lenderOf_6 : decode cX4_lenderOf 6 = .ok (.aload_n 0, 1) := by decide +kernel
theorem dX4_lenderOf_7 : decode cX4_lenderOf 7 = .ok (.getfield 25, 3) := by decide +kernel
theorem dX4_lenderOf_10 : decode cX4_lenderOf 10 = .ok (.iload_n 3, 1) := by decide +kernel
theorem dX4_lenderOf_11 : decode cX4_lenderOf 11 = .ok (.iaload, 1) := by decide +kernel
theorem dX4_lenderOf_12 : decode cX4_lenderOf 12 = .ok (.iconst (-1), 1) := by decide +kernel
theorem dX4_lenderOf_13 : decode cX4_lenderOf 13 = .ok (.if_icmp .eq 12, 3) := by decide +kernel
theorem dX4_lenderOf_16 : decode cX4_lenderOf 16 = .ok (.aload_n 0, 1) := by decide +kernel
theorem dX4_lenderOf_17 : decode cX4_lenderOf 17 = .ok (.getfield 22, 3) := by decide +kernel
theorem dX4_lenderOf_20 : decode cX4_lenderOf 20 = .ok (.iload_n 3, 1) := by decide +kernel
theorem dX4_lenderOf_21 : decode cX4_lenderOf 21 = .ok (.iaload, 1) := by decide +kernel
theorem dX4_lenderOf_22 : decode cX4_lenderOf 22 = .ok (.goto 4, 3) := by decide +kernel
theorem dX4_lenderOf_25 : decode cX4_lenderOf 25 = .ok (.iconst (-1), 1) := by decide +kernel
theorem dX4_lenderOf_26 : decode cX4_lenderOf 26 = .ok (.ireturn, 1) := by decide +kernel
theorem dX4_isOpen_0 : decode cX4_isOpen 0 = .ok (.aload_n 0, 1) := by decide +kernel
theorem dX4_isOpen_1 : decode cX4_isOpen 1 = .ok (.getfield 28, 3) := by decide +kernel
theorem dX4_isOpen_4 : decode cX4_isOpen 4 = .ok (.iload_n 1, 1) := by decide +kernel
theorem dX4_isOpen_5 : decode cX4_isOpen 5 = .ok (.baload, 1) := by decide +kernel
theorem dX4_isOpen_6 : decode cX4_isOpen 6 = .ok (.ifCond .ne 21, 3) := by decide +kernel
theorem dX4_isOpen_9 : decode cX4_isOpen 9 = .ok (.aload_n 0, 1) := by decide +kernel
theorem dX4_isOpen_10 : decode cX4_isOpen 10 = .ok (.getfield 22, 3) := by decide +kernel
theorem dX4_isOpen_13 : decode cX4_isOpen 13 = .ok (.iconst 2, 1) := by decide +kernel
theorem dX4_isOpen_14 : decode cX4_isOpen 14 = .ok (.iload_n 1, 1) := by decide +kernel
theorem dX4_isOpen_15 : decode cX4_isOpen 15 = .ok (.imul, 1) := by decide +kernel
theorem dX4_isOpen_16 : decode cX4_isOpen 16 = .ok (.iload_n 2, 1) := by decide +kernel
theorem dX4_isOpen_17 : decode cX4_isOpen 17 = .ok (.iadd, 1) := by decide +kernel
theorem dX4_isOpen_18 : decode cX4_isOpen 18 = .ok (.iaload, 1) := by decide +kernel
theorem dX4_isOpen_19 : decode cX4_isOpen 19 = .ok (.iconst (-1), 1) := by decide +kernel
theorem dX4_isOpen_20 : decode cX4_isOpen 20 = .ok (.if_icmp .ne 7, 3) := by decide +kernel
theorem dX4_isOpen_23 : decode cX4_isOpen 23 = .ok (.iconst 1, 1) := by decide +kernel
theorem dX4_isOpen_24 : decode cX4_isOpen 24 = .ok (.goto 4, 3) := by decide +kernel
theorem dX4_isOpen_27 : decode cX4_isOpen 27 = .ok (.iconst 0, 1) := by decide +kernel
theorem dX4_isOpen_28 : decode cX4_isOpen 28 = .ok (.ireturn, 1) := by decide +kernel
theorem dX4_isLent_0 : decode cX4_isLent 0 = .ok (.aload_n 0, 1) := by decide +kernel
theorem dX4_isLent_1 : decode cX4_isLent 1 = .ok (.getfield 25, 3) := by decide +kernel
theorem dX4_isLent_4 : decode cX4_isLent 4 = .ok (.iconst 2, 1) := by decide +kernel
theorem dX4_isLent_5 : decode cX4_isLent 5 = .ok (.iload_n 1, 1) := by decide +kernel
theorem dX4_isLent_6 : decode cX4_isLent 6 = .ok (.imul, 1) := by decide +kernel
theorem dX4_isLent_7 : decode cX4_isLent 7 = .ok (.iload_n 2, 1) := by decide +kernel
theorem dX4_isLent_8 : decode cX4_isLent 8 = .ok (.iadd, 1) := by decide +kernel
theorem dX4_isLent_9 : decode cX4_isLent 9 = .ok (.iaload, 1) := by decide +kernel
theorem dX4_isLent_10 : decode cX4_isLent 10 = .ok (.iconst (-1), 1) := by decide +kernel
theorem dX4_isLent_11 : decode cX4_isLent 11 = .ok (.if_icmp .eq 7, 3) := by decide +kernel
theorem dX4_isLent_14 : decode cX4_isLent 14 = .ok (.iconst 1, 1) := by decide +kernel
theorem dX4_isLent_15 : decode cX4_isLent 15 = .ok (.goto 4, 3) := by decide +kernel
theorem dX4_isLent_18 : decode cX4_isLent 18 = .ok (.iconst 0, 1) := by decide +kernel
theorem dX4_isLent_19 : decode cX4_isLent 19 = .ok (.ireturn, 1) := by decide +kernel
theorem dX4_hasToDoWithSide_0 : decode cX4_hasToDoWithSide 0 = .ok (.iconst 2, 1) := by decide +kernel
theorem dX4_hasToDoWithSide_1 : decode cX4_hasToDoWithSide 1 = .ok (.iload_n 2, 1) := by decide +kernel
theorem dX4_hasToDoWithSide_2 : decode cX4_hasToDoWithSide 2 = .ok (.imul, 1) := by decide +kernel
theorem dX4_hasToDoWithSide_3 : decode cX4_hasToDoWithSide 3 = .ok (.iload_n 3, 1) := by decide +kernel
theorem dX4_hasToDoWithSide_4 : decode cX4_hasToDoWithSide 4 = .ok (.iadd, 1) := by decide +kernel
theorem dX4_hasToDoWithSide_5 : decode cX4_hasToDoWithSide 5 = .ok (.istore 4, 2) := by decide +kernel
theorem dX4_hasToDoWithSide_7 : decode cX4_hasToDoWithSide 7 = .ok (.aload_n 0, 1) := by decide +kernel
theorem dX4_hasToDoWithSide_8 : decode cX4_hasToDoWithSide 8 = .ok (.getfield 22, 3) := by decide +kernel
theorem dX4_hasToDoWithSide_11 : decode cX4_hasToDoWithSide 11 = .ok (.iload 4, 2) := by decide +kernel
theorem dX4_hasToDoWithSide_13 : decode cX4_hasToDoWithSide 13 = .ok (.iaload, 1) := by decide +kernel
theorem dX4_hasToDoWithSide_14 : decode cX4_hasToDoWithSide 14 = .ok (.iload_n 1, 1) := by decide +kernel
theorem dX4_hasToDoWithSide_15 : decode cX4_hasToDoWithSide 15 = .ok (.if_icmp .eq 14, 3) := by decide +kernel
theorem dX4_hasToDoWithSide_18 : decode cX4_hasToDoWithSide 18 = .ok (.aload_n 0, 1) := by decide +kernel
theorem dX4_hasToDoWithSide_19 : decode cX4_hasToDoWithSide 19 = .ok (.getfield 25, 3) := by decide +kernel
theorem dX4_hasToDoWithSide_22 : decode cX4_hasToDoWithSide 22 = .ok (.iload 4, 2) := by decide +kernel
theorem dX4_hasToDoWithSide_24 : decode cX4_hasToDoWithSide 24 = .ok (.iaload, 1) := by decide +kernel
theorem dX4_hasToDoWithSide_25 : decode cX4_hasToDoWithSide 25 = .ok (.iload_n 1, 1) := by decide +kernel
theorem dX4_hasToDoWithSide_26 : decode cX4_hasToDoWithSide 26 = .ok (.if_icmp .ne 7, 3) := by decide +kernel
theorem dX4_hasToDoWithSide_29 : decode cX4_hasToDoWithSide 29 = .ok (.iconst 1, 1) := by decide +kernel
theorem dX4_hasToDoWithSide_30 : decode cX4_hasToDoWithSide 30 = .ok (.goto 4, 3) := by decide +kernel
theorem dX4_hasToDoWithSide_33 : decode cX4_hasToDoWithSide 33 = .ok (.iconst 0, 1) := by decide +kernel
theorem dX4_hasToDoWithSide_34 : decode cX4_hasToDoWithSide 34 = .ok (.ireturn, 1) := by decide +kernel
theorem dX4_hasToDo_0 : decode cX4_hasToDo 0 = .ok (.aload_n 0, 1) := by decide +kernel
theorem dX4_hasToDo_1 : decode cX4_hasToDo 1 = .ok (.iload_n 1, 1) := by decide +kernel
theorem dX4_hasToDo_2 : decode cX4_hasToDo 2 = .ok (.iload_n 2, 1) := by decide +kernel
theorem dX4_hasToDo_3 : decode cX4_hasToDo 3 = .ok (.iconst 0, 1) := by decide +kernel
theorem dX4_hasToDo_4 : decode cX4_hasToDo 4 = .ok (.invokevirtual 71, 3) := by decide +kernel
theorem dX4_hasToDo_7 : decode cX4_hasToDo 7 = .ok (.ifCond .ne 13, 3) := by decide +kernel
theorem dX4_hasToDo_10 : decode cX4_hasToDo 10 = .ok (.aload_n 0, 1) := by decide +kernel
theorem dX4_hasToDo_11 : decode cX4_hasToDo 11 = .ok (.iload_n 1, 1) := by decide +kernel
theorem dX4_hasToDo_12 : decode cX4_hasToDo 12 = .ok (.iload_n 2, 1) := by decide +kernel
theorem dX4_hasToDo_13 : decode cX4_hasToDo 13 = .ok (.iconst 1, 1) := by decide +kernel
theorem dX4_hasToDo_14 : decode cX4_hasToDo 14 = .ok (.invokevirtual 71, 3) := by decide +kernel
theorem dX4_hasToDo_17 : decode cX4_hasToDo 17 = .ok (.ifCond .eq 7, 3) := by decide +kernel
theorem dX4_hasToDo_20 : decode cX4_hasToDo 20 = .ok (.iconst 1, 1) := by decide +kernel
theorem dX4_hasToDo_21 : decode cX4_hasToDo 21 = .ok (.goto 4, 3) := by decide +kernel
theorem dX4_hasToDo_24 : decode cX4_hasToDo 24 = .ok (.iconst 0, 1) := by decide +kernel
theorem dX4_hasToDo_25 : decode cX4_hasToDo 25 = .ok (.ireturn, 1) := by decide +kernel
theorem dX4_priceOf_0 : decode cX4_priceOf 0 = .ok (.aload_n 0, 1) := by decide +kernel
theorem dX4_priceOf_1 : decode cX4_priceOf 1 = .ok (.getfield 50, 3) := by decide +kernel
theorem dX4_priceOf_4 : decode cX4_priceOf 4 = .ok (.getfield 75, 3) := by decide +kernel
theorem dX4_priceOf_7 : decode cX4_priceOf 7 = .ok (.iload_n 1, 1) := by decide +kernel
theorem dX4_priceOf_8 : decode cX4_priceOf 8 = .ok (.aaload, 1) := by decide +kernel
theorem dX4_priceOf_9 : decode cX4_priceOf 9 = .ok (.invokevirtual 79, 3) := by decide +kernel
theorem dX4_priceOf_12 : decode cX4_priceOf 12 = .ok (.istore_n 3, 1) := by decide +kernel
theorem dX4_priceOf_13 : decode cX4_priceOf 13 = .ok (.aload_n 0, 1) := by decide +kernel
theorem dX4_priceOf_14 : decode cX4_priceOf 14 = .ok (.iload_n 1, 1) := by decide +kernel
theorem dX4_priceOf_15 : decode cX4_priceOf 15 = .ok (.iconst 1, 1) := by decide +kernel
theorem dX4_priceOf_16 : decode cX4_priceOf 16 = .ok (.iload_n 2, 1) := by decide +kernel
theorem dX4_priceOf_17 : decode cX4_priceOf 17 = .ok (.isub, 1) := by decide +kernel
theorem dX4_priceOf_18 : decode cX4_priceOf 18 = .ok (.invokevirtual 85, 3) := by decide +kernel
theorem dX4_priceOf_21 : decode cX4_priceOf 21 = .ok (.ifCond .eq 11, 3) := by decide +kernel
theorem dX4_priceOf_24 : decode cX4_priceOf 24 = .ok (.iload_n 3, 1) := by decide +kernel
theorem dX4_priceOf_25 : decode cX4_priceOf 25 = .ok (.iconst 1, 1) := by decide +kernel
theorem dX4_priceOf_26 : decode cX4_priceOf 26 = .ok (.iadd, 1) := by decide +kernel
theorem dX4_priceOf_27 : decode cX4_priceOf 27 = .ok (.iconst 2, 1) := by decide +kernel
theorem dX4_priceOf_28 : decode cX4_priceOf 28 = .ok (.idiv, 1) := by decide +kernel
theorem dX4_priceOf_29 : decode cX4_priceOf 29 = .ok (.goto 4, 3) := by decide +kernel
theorem dX4_priceOf_32 : decode cX4_priceOf 32 = .ok (.iload_n 3, 1) := by decide +kernel
theorem dX4_priceOf_33 : decode cX4_priceOf 33 = .ok (.ireturn, 1) := by decide +kernel
theorem dX4_toldPrice_0 : decode cX4_toldPrice 0 = .ok (.aload_n 0, 1) := by decide +kernel
theorem dX4_toldPrice_1 : decode cX4_toldPrice 1 = .ok (.getfield 28, 3) := by decide +kernel
theorem dX4_toldPrice_4 : decode cX4_toldPrice 4 = .ok (.iload_n 1, 1) := by decide +kernel
theorem dX4_toldPrice_5 : decode cX4_toldPrice 5 = .ok (.baload, 1) := by decide +kernel
theorem dX4_toldPrice_6 : decode cX4_toldPrice 6 = .ok (.ifCond .eq 7, 3) := by decide +kernel
theorem dX4_toldPrice_9 : decode cX4_toldPrice 9 = .ok (.iconst (-1), 1) := by decide +kernel
theorem dX4_toldPrice_10 : decode cX4_toldPrice 10 = .ok (.goto 9, 3) := by decide +kernel
theorem dX4_toldPrice_13 : decode cX4_toldPrice 13 = .ok (.aload_n 0, 1) := by decide +kernel
theorem dX4_toldPrice_14 : decode cX4_toldPrice 14 = .ok (.iload_n 1, 1) := by decide +kernel
theorem dX4_toldPrice_15 : decode cX4_toldPrice 15 = .ok (.iload_n 2, 1) := by decide +kernel
theorem dX4_toldPrice_16 : decode cX4_toldPrice 16 = .ok (.invokevirtual 89, 3) := by decide +kernel
theorem dX4_toldPrice_19 : decode cX4_toldPrice 19 = .ok (.ireturn, 1) := by decide +kernel
theorem dX4_canBuy_0 : decode cX4_canBuy 0 = .ok (.aload_n 0, 1) := by decide +kernel
theorem dX4_canBuy_1 : decode cX4_canBuy 1 = .ok (.getfield 28, 3) := by decide +kernel
theorem dX4_canBuy_4 : decode cX4_canBuy 4 = .ok (.iload_n 2, 1) := by decide +kernel
theorem dX4_canBuy_5 : decode cX4_canBuy 5 = .ok (.baload, 1) := by decide +kernel
theorem dX4_canBuy_6 : decode cX4_canBuy 6 = .ok (.ifCond .ne 49, 3) := by decide +kernel
theorem dX4_canBuy_9 : decode cX4_canBuy 9 = .ok (.aload_n 0, 1) := by decide +kernel
theorem dX4_canBuy_10 : decode cX4_canBuy 10 = .ok (.iload_n 2, 1) := by decide +kernel
theorem dX4_canBuy_11 : decode cX4_canBuy 11 = .ok (.iload_n 3, 1) := by decide +kernel
theorem dX4_canBuy_12 : decode cX4_canBuy 12 = .ok (.invokevirtual 93, 3) := by decide +kernel
theorem dX4_canBuy_15 : decode cX4_canBuy 15 = .ok (.ifCond .ne 40, 3) := by decide +kernel
theorem dX4_canBuy_18 : decode cX4_canBuy 18 = .ok (.aload_n 0, 1) := by decide +kernel
theorem dX4_canBuy_19 : decode cX4_canBuy 19 = .ok (.getfield 18, 3) := by decide +kernel
theorem dX4_canBuy_22 : decode cX4_canBuy 22 = .ok (.iload_n 1, 1) := by decide +kernel
theorem dX4_canBuy_23 : decode cX4_canBuy 23 = .ok (.baload, 1) := by decide +kernel
theorem dX4_canBuy_24 : decode cX4_canBuy 24 = .ok (.ifCond .eq 31, 3) := by decide +kernel
theorem dX4_canBuy_27 : decode cX4_canBuy 27 = .ok (.aload_n 0, 1) := by decide +kernel
theorem dX4_canBuy_28 : decode cX4_canBuy 28 = .ok (.iload_n 1, 1) := by decide +kernel
theorem dX4_canBuy_29 : decode cX4_canBuy 29 = .ok (.iload_n 2, 1) := by decide +kernel
theorem dX4_canBuy_30 : decode cX4_canBuy 30 = .ok (.invokevirtual 96, 3) := by decide +kernel
theorem dX4_canBuy_33 : decode cX4_canBuy 33 = .ok (.ifCond .ne 22, 3) := by decide +kernel
theorem dX4_canBuy_36 : decode cX4_canBuy 36 = .ok (.aload_n 0, 1) := by decide +kernel
theorem dX4_canBuy_37 : decode cX4_canBuy 37 = .ok (.getfield 9, 3) := by decide +kernel
theorem dX4_canBuy_40 : decode cX4_canBuy 40 = .ok (.iload_n 1, 1) := by decide +kernel
theorem dX4_canBuy_41 : decode cX4_canBuy 41 = .ok (.iaload, 1) := by decide +kernel
theorem dX4_canBuy_42 : decode cX4_canBuy 42 = .ok (.aload_n 0, 1) := by decide +kernel
theorem dX4_canBuy_43 : decode cX4_canBuy 43 = .ok (.iload_n 2, 1) := by decide +kernel
theorem dX4_canBuy_44 : decode cX4_canBuy 44 = .ok (.iload_n 3, 1) := by decide +kernel
theorem dX4_canBuy_45 : decode cX4_canBuy 45 = .ok (.invokevirtual 89, 3) := by decide +kernel
theorem dX4_canBuy_48 : decode cX4_canBuy 48 = .ok (.if_icmp .lt 7, 3) := by decide +kernel
theorem dX4_canBuy_51 : decode cX4_canBuy 51 = .ok (.iconst 1, 1) := by decide +kernel
theorem dX4_canBuy_52 : decode cX4_canBuy 52 = .ok (.goto 4, 3) := by decide +kernel
theorem dX4_canBuy_55 : decode cX4_canBuy 55 = .ok (.iconst 0, 1) := by decide +kernel
theorem dX4_canBuy_56 : decode cX4_canBuy 56 = .ok (.ireturn, 1) := by decide +kernel
theorem dX4_sellTo_0 : decode cX4_sellTo 0 = .ok (.iconst 2, 1) := by decide +kernel
theorem dX4_sellTo_1 : decode cX4_sellTo 1 = .ok (.iload_n 2, 1) := by decide +kernel
theorem dX4_sellTo_2 : decode cX4_sellTo 2 = .ok (.imul, 1) := by decide +kernel
theorem dX4_sellTo_3 : decode cX4_sellTo 3 = .ok (.iload_n 3, 1) := by decide +kernel
theorem dX4_sellTo_4 : decode cX4_sellTo 4 = .ok (.iadd, 1) := by decide +kernel
theorem dX4_sellTo_5 : decode cX4_sellTo 5 = .ok (.istore 4, 2) := by decide +kernel
theorem dX4_sellTo_7 : decode cX4_sellTo 7 = .ok (.aload_n 0, 1) := by decide +kernel
theorem dX4_sellTo_8 : decode cX4_sellTo 8 = .ok (.iload_n 2, 1) := by decide +kernel
theorem dX4_sellTo_9 : decode cX4_sellTo 9 = .ok (.iload_n 3, 1) := by decide +kernel
theorem dX4_sellTo_10 : decode cX4_sellTo 10 = .ok (.invokevirtual 89, 3) := by decide +kernel
theorem dX4_sellTo_13 : decode cX4_sellTo 13 = .ok (.istore 5, 2) := by decide +kernel
theorem dX4_sellTo_15 : decode cX4_sellTo 15 = .ok (.aload_n 0, 1) := by decide +kernel
theorem dX4_sellTo_16 : decode cX4_sellTo 16 = .ok (.getfield 9, 3) := by decide +kernel
theorem dX4_sellTo_19 : decode cX4_sellTo 19 = .ok (.iload_n 1, 1) := by decide +kernel
theorem dX4_sellTo_20 : decode cX4_sellTo 20 = .ok (.dup2, 1) := by decide +kernel
theorem dX4_sellTo_21 : decode cX4_sellTo 21 = .ok (.iaload, 1) := by decide +kernel
theorem dX4_sellTo_22 : decode cX4_sellTo 22 = .ok (.iload 5, 2) := by decide +kernel
theorem dX4_sellTo_24 : decode cX4_sellTo 24 = .ok (.isub, 1) := by decide +kernel
theorem dX4_sellTo_25 : decode cX4_sellTo 25 = .ok (.iastore, 1) := by decide +kernel
theorem dX4_sellTo_26 : decode cX4_sellTo 26 = .ok (.aload_n 0, 1) := by decide +kernel
theorem dX4_sellTo_27 : decode cX4_sellTo 27 = .ok (.getfield 22, 3) := by decide +kernel
theorem dX4_sellTo_30 : decode cX4_sellTo 30 = .ok (.iload 4, 2) := by decide +kernel
theorem dX4_sellTo_32 : decode cX4_sellTo 32 = .ok (.iaload, 1) := by decide +kernel
theorem dX4_sellTo_33 : decode cX4_sellTo 33 = .ok (.iconst (-1), 1) := by decide +kernel
theorem dX4_sellTo_34 : decode cX4_sellTo 34 = .ok (.if_icmp .eq 16, 3) := by decide +kernel
theorem dX4_sellTo_37 : decode cX4_sellTo 37 = .ok (.aload_n 0, 1) := by decide +kernel
theorem dX4_sellTo_38 : decode cX4_sellTo 38 = .ok (.aload_n 0, 1) := by decide +kernel
theorem dX4_sellTo_39 : decode cX4_sellTo 39 = .ok (.getfield 22, 3) := by decide +kernel
theorem dX4_sellTo_42 : decode cX4_sellTo 42 = .ok (.iload 4, 2) := by decide +kernel
theorem dX4_sellTo_44 : decode cX4_sellTo 44 = .ok (.iaload, 1) := by decide +kernel
theorem dX4_sellTo_45 : decode cX4_sellTo 45 = .ok (.iload 5, 2) := by decide +kernel
theorem dX4_sellTo_47 : decode cX4_sellTo 47 = .ok (.invokevirtual 99, 3) := by decide +kernel
theorem dX4_sellTo_50 : decode cX4_sellTo 50 = .ok (.aload_n 0, 1) := by decide +kernel
theorem dX4_sellTo_51 : decode cX4_sellTo 51 = .ok (.getfield 22, 3) := by decide +kernel
theorem dX4_sellTo_54 : decode cX4_sellTo 54 = .ok (.iload 4, 2) := by decide +kernel
theorem dX4_sellTo_56 : decode cX4_sellTo 56 = .ok (.iload_n 1, 1) := by decide +kernel
theorem dX4_sellTo_57 : decode cX4_sellTo 57 = .ok (.iastore, 1) := by decide +kernel
theorem dX4_sellTo_58 : decode cX4_sellTo 58 = .ok (.iload 5, 2) := by decide +kernel
theorem dX4_sellTo_60 : decode cX4_sellTo 60 = .ok (.ireturn, 1) := by decide +kernel
theorem dX4_pay_0 : decode cX4_pay 0 = .ok (.aload_n 0, 1) := by decide +kernel
theorem dX4_pay_1 : decode cX4_pay 1 = .ok (.getfield 9, 3) := by decide +kernel
theorem dX4_pay_4 : decode cX4_pay 4 = .ok (.iload_n 1, 1) := by decide +kernel
theorem dX4_pay_5 : decode cX4_pay 5 = .ok (.bipush 99, 2) := by decide +kernel
theorem dX4_pay_7 : decode cX4_pay 7 = .ok (.aload_n 0, 1) := by decide +kernel
theorem dX4_pay_8 : decode cX4_pay 8 = .ok (.getfield 9, 3) := by decide +kernel
theorem dX4_pay_11 : decode cX4_pay 11 = .ok (.iload_n 1, 1) := by decide +kernel
theorem dX4_pay_12 : decode cX4_pay 12 = .ok (.iaload, 1) := by decide +kernel
theorem dX4_pay_13 : decode cX4_pay 13 = .ok (.iload_n 2, 1) := by decide +kernel
theorem dX4_pay_14 : decode cX4_pay 14 = .ok (.iadd, 1) := by decide +kernel
theorem dX4_pay_15 : decode cX4_pay 15 = .ok (.invokestatic 103, 3) := by decide +kernel
theorem dX4_pay_18 : decode cX4_pay 18 = .ok (.iastore, 1) := by decide +kernel
theorem dX4_pay_19 : decode cX4_pay 19 = .ok (.return_, 1) := by decide +kernel
theorem dX4_getOn_0 : decode cX4_getOn 0 = .ok (.aload_n 0, 1) := by decide +kernel
theorem dX4_getOn_1 : decode cX4_getOn 1 = .ok (.iload_n 2, 1) := by decide +kernel
theorem dX4_getOn_2 : decode cX4_getOn 2 = .ok (.iload_n 3, 1) := by decide +kernel
theorem dX4_getOn_3 : decode cX4_getOn 3 = .ok (.invokevirtual 108, 3) := by decide +kernel
theorem dX4_getOn_6 : decode cX4_getOn 6 = .ok (.iload_n 1, 1) := by decide +kernel
theorem dX4_getOn_7 : decode cX4_getOn 7 = .ok (.if_icmp .ne 5, 3) := by decide +kernel
theorem dX4_getOn_10 : decode cX4_getOn 10 = .ok (.iconst 0, 1) := by decide +kernel
theorem dX4_getOn_11 : decode cX4_getOn 11 = .ok (.ireturn, 1) := by decide +kernel
theorem dX4_getOn_12 : decode cX4_getOn 12 = .ok (.aload_n 0, 1) := by decide +kernel
theorem dX4_getOn_13 : decode cX4_getOn 13 = .ok (.iload_n 1, 1) := by decide +kernel
theorem dX4_getOn_14 : decode cX4_getOn 14 = .ok (.iload_n 2, 1) := by decide +kernel
theorem dX4_getOn_15 : decode cX4_getOn 15 = .ok (.iload_n 3, 1) := by decide +kernel
theorem dX4_getOn_16 : decode cX4_getOn 16 = .ok (.invokevirtual 111, 3) := by decide +kernel
theorem dX4_getOn_19 : decode cX4_getOn 19 = .ok (.ifCond .eq 13, 3) := by decide +kernel
theorem dX4_getOn_22 : decode cX4_getOn 22 = .ok (.aload_n 0, 1) := by decide +kernel
theorem dX4_getOn_23 : decode cX4_getOn 23 = .ok (.iload_n 1, 1) := by decide +kernel
theorem dX4_getOn_24 : decode cX4_getOn 24 = .ok (.iload_n 2, 1) := by decide +kernel
theorem dX4_getOn_25 : decode cX4_getOn 25 = .ok (.iload_n 3, 1) := by decide +kernel
theorem dX4_getOn_26 : decode cX4_getOn 26 = .ok (.invokevirtual 114, 3) := by decide +kernel
theorem dX4_getOn_29 : decode cX4_getOn 29 = .ok (.goto 4, 3) := by decide +kernel
theorem dX4_getOn_32 : decode cX4_getOn 32 = .ok (.iconst (-1), 1) := by decide +kernel
theorem dX4_getOn_33 : decode cX4_getOn 33 = .ok (.ireturn, 1) := by decide +kernel
theorem dX4_canLend_0 : decode cX4_canLend 0 = .ok (.aload_n 0, 1) := by decide +kernel
theorem dX4_canLend_1 : decode cX4_canLend 1 = .ok (.getfield 28, 3) := by decide +kernel
theorem dX4_canLend_4 : decode cX4_canLend 4 = .ok (.iload_n 1, 1) := by decide +kernel
theorem dX4_canLend_5 : decode cX4_canLend 5 = .ok (.baload, 1) := by decide +kernel
theorem dX4_canLend_6 : decode cX4_canLend 6 = .ok (.ifCond .ne 58, 3) := by decide +kernel
theorem dX4_canLend_9 : decode cX4_canLend 9 = .ok (.aload_n 0, 1) := by decide +kernel
theorem dX4_canLend_10 : decode cX4_canLend 10 = .ok (.iload_n 1, 1) := by decide +kernel
theorem dX4_canLend_11 : decode cX4_canLend 11 = .ok (.iload_n 2, 1) := by decide +kernel
theorem dX4_canLend_12 : decode cX4_canLend 12 = .ok (.invokevirtual 85, 3) := by decide +kernel
theorem dX4_canLend_15 : decode cX4_canLend 15 = .ok (.ifCond .ne 49, 3) := by decide +kernel
theorem dX4_canLend_18 : decode cX4_canLend 18 = .ok (.aload_n 0, 1) := by decide +kernel
theorem dX4_canLend_19 : decode cX4_canLend 19 = .ok (.iload_n 1, 1) := by decide +kernel
theorem dX4_canLend_20 : decode cX4_canLend 20 = .ok (.iload_n 2, 1) := by decide +kernel
theorem dX4_canLend_21 : decode cX4_canLend 21 = .ok (.invokevirtual 93, 3) := by decide +kernel
theorem dX4_canLend_24 : decode cX4_canLend 24 = .ok (.ifCond .ne 40, 3) := by decide +kernel
theorem dX4_canLend_27 : decode cX4_canLend 27 = .ok (.aload_n 0, 1) := by decide +kernel
theorem dX4_canLend_28 : decode cX4_canLend 28 = .ok (.getfield 50, 3) := by decide +kernel
theorem dX4_canLend_31 : decode cX4_canLend 31 = .ok (.getfield 75, 3) := by decide +kernel
theorem dX4_canLend_34 : decode cX4_canLend 34 = .ok (.iload_n 1, 1) := by decide +kernel
theorem dX4_canLend_35 : decode cX4_canLend 35 = .ok (.aaload, 1) := by decide +kernel
theorem dX4_canLend_36 : decode cX4_canLend 36 = .ok (.invokevirtual 118, 3) := by decide +kernel
theorem dX4_canLend_39 : decode cX4_canLend 39 = .ok (.ifCond .eq 25, 3) := by decide +kernel
theorem dX4_canLend_42 : decode cX4_canLend 42 = .ok (.aload_n 0, 1) := by decide +kernel
theorem dX4_canLend_43 : decode cX4_canLend 43 = .ok (.getfield 18, 3) := by decide +kernel
theorem dX4_canLend_46 : decode cX4_canLend 46 = .ok (.iload_n 3, 1) := by decide +kernel
theorem dX4_canLend_47 : decode cX4_canLend 47 = .ok (.baload, 1) := by decide +kernel
theorem dX4_canLend_48 : decode cX4_canLend 48 = .ok (.ifCond .eq 16, 3) := by decide +kernel
theorem dX4_canLend_51 : decode cX4_canLend 51 = .ok (.aload_n 0, 1) := by decide +kernel
theorem dX4_canLend_52 : decode cX4_canLend 52 = .ok (.iload_n 3, 1) := by decide +kernel
theorem dX4_canLend_53 : decode cX4_canLend 53 = .ok (.iload_n 1, 1) := by decide +kernel
theorem dX4_canLend_54 : decode cX4_canLend 54 = .ok (.invokevirtual 96, 3) := by decide +kernel
theorem dX4_canLend_57 : decode cX4_canLend 57 = .ok (.ifCond .ne 7, 3) := by decide +kernel
theorem dX4_canLend_60 : decode cX4_canLend 60 = .ok (.iconst 1, 1) := by decide +kernel
theorem dX4_canLend_61 : decode cX4_canLend 61 = .ok (.goto 4, 3) := by decide +kernel
theorem dX4_canLend_64 : decode cX4_canLend 64 = .ok (.iconst 0, 1) := by decide +kernel
theorem dX4_canLend_65 : decode cX4_canLend 65 = .ok (.ireturn, 1) := by decide +kernel
theorem dX4_canStrike_0 : decode cX4_canStrike 0 = .ok (.aload_n 0, 1) := by decide +kernel
theorem dX4_canStrike_1 : decode cX4_canStrike 1 = .ok (.iload_n 1, 1) := by decide +kernel
theorem dX4_canStrike_2 : decode cX4_canStrike 2 = .ok (.iconst 0, 1) := by decide +kernel
theorem dX4_canStrike_3 : decode cX4_canStrike 3 = .ok (.invokevirtual 85, 3) := by decide +kernel
theorem dX4_canStrike_6 : decode cX4_canStrike 6 = .ok (.ifCond .eq 7, 3) := by decide +kernel
theorem dX4_canStrike_9 : decode cX4_canStrike 9 = .ok (.iconst 1, 1) := by decide +kernel
theorem dX4_canStrike_10 : decode cX4_canStrike 10 = .ok (.goto 4, 3) := by decide +kernel
theorem dX4_canStrike_13 : decode cX4_canStrike 13 = .ok (.iconst 0, 1) := by decide +kernel
theorem dX4_canStrike_14 : decode cX4_canStrike 14 = .ok (.aload_n 0, 1) := by decide +kernel
theorem dX4_canStrike_15 : decode cX4_canStrike 15 = .ok (.iload_n 1, 1) := by decide +kernel
theorem dX4_canStrike_16 : decode cX4_canStrike 16 = .ok (.iconst 1, 1) := by decide +kernel
theorem dX4_canStrike_17 : decode cX4_canStrike 17 = .ok (.invokevirtual 85, 3) := by decide +kernel
theorem dX4_canStrike_20 : decode cX4_canStrike 20 = .ok (.ifCond .eq 7, 3) := by decide +kernel
theorem dX4_canStrike_23 : decode cX4_canStrike 23 = .ok (.iconst 1, 1) := by decide +kernel
theorem dX4_canStrike_24 : decode cX4_canStrike 24 = .ok (.goto 4, 3) := by decide +kernel
theorem dX4_canStrike_27 : decode cX4_canStrike 27 = .ok (.iconst 0, 1) := by decide +kernel
theorem dX4_canStrike_28 : decode cX4_canStrike 28 = .ok (.iadd, 1) := by decide +kernel
theorem dX4_canStrike_29 : decode cX4_canStrike 29 = .ok (.istore_n 2, 1) := by decide +kernel
theorem dX4_canStrike_30 : decode cX4_canStrike 30 = .ok (.aload_n 0, 1) := by decide +kernel
theorem dX4_canStrike_31 : decode cX4_canStrike 31 = .ok (.getfield 28, 3) := by decide +kernel
theorem dX4_canStrike_34 : decode cX4_canStrike 34 = .ok (.iload_n 1, 1) := by decide +kernel
theorem dX4_canStrike_35 : decode cX4_canStrike 35 = .ok (.baload, 1) := by decide +kernel
theorem dX4_canStrike_36 : decode cX4_canStrike 36 = .ok (.ifCond .ne 41, 3) := by decide +kernel
theorem dX4_canStrike_39 : decode cX4_canStrike 39 = .ok (.aload_n 0, 1) := by decide +kernel
theorem dX4_canStrike_40 : decode cX4_canStrike 40 = .ok (.iload_n 1, 1) := by decide +kernel
theorem dX4_canStrike_41 : decode cX4_canStrike 41 = .ok (.iconst 0, 1) := by decide +kernel
theorem dX4_canStrike_42 : decode cX4_canStrike 42 = .ok (.invokevirtual 93, 3) := by decide +kernel
theorem dX4_canStrike_45 : decode cX4_canStrike 45 = .ok (.ifCond .ne 32, 3) := by decide +kernel
theorem dX4_canStrike_48 : decode cX4_canStrike 48 = .ok (.aload_n 0, 1) := by decide +kernel
theorem dX4_canStrike_49 : decode cX4_canStrike 49 = .ok (.iload_n 1, 1) := by decide +kernel
theorem dX4_canStrike_50 : decode cX4_canStrike 50 = .ok (.iconst 1, 1) := by decide +kernel
theorem dX4_canStrike_51 : decode cX4_canStrike 51 = .ok (.invokevirtual 93, 3) := by decide +kernel
theorem dX4_canStrike_54 : decode cX4_canStrike 54 = .ok (.ifCond .ne 23, 3) := by decide +kernel
theorem dX4_canStrike_57 : decode cX4_canStrike 57 = .ok (.iload_n 2, 1) := by decide +kernel
theorem dX4_canStrike_58 : decode cX4_canStrike 58 = .ok (.aload_n 0, 1) := by decide +kernel
theorem dX4_canStrike_59 : decode cX4_canStrike 59 = .ok (.getfield 50, 3) := by decide +kernel
theorem dX4_canStrike_62 : decode cX4_canStrike 62 = .ok (.getfield 75, 3) := by decide +kernel
theorem dX4_canStrike_65 : decode cX4_canStrike 65 = .ok (.iload_n 1, 1) := by decide +kernel
theorem dX4_canStrike_66 : decode cX4_canStrike 66 = .ok (.aaload, 1) := by decide +kernel
theorem dX4_canStrike_67 : decode cX4_canStrike 67 = .ok (.invokevirtual 122, 3) := by decide +kernel
theorem dX4_canStrike_70 : decode cX4_canStrike 70 = .ok (.if_icmp .gt 7, 3) := by decide +kernel
theorem dX4_canStrike_73 : decode cX4_canStrike 73 = .ok (.iconst 1, 1) := by decide +kernel
theorem dX4_canStrike_74 : decode cX4_canStrike 74 = .ok (.goto 4, 3) := by decide +kernel
theorem dX4_canStrike_77 : decode cX4_canStrike 77 = .ok (.iconst 0, 1) := by decide +kernel
theorem dX4_canStrike_78 : decode cX4_canStrike 78 = .ok (.ireturn, 1) := by decide +kernel
theorem dX4_strike_0 : decode cX4_strike 0 = .ok (.aload_n 0, 1) := by decide +kernel
theorem dX4_strike_1 : decode cX4_strike 1 = .ok (.getfield 28, 3) := by decide +kernel
theorem dX4_strike_4 : decode cX4_strike 4 = .ok (.iload_n 1, 1) := by decide +kernel
theorem dX4_strike_5 : decode cX4_strike 5 = .ok (.iconst 1, 1) := by decide +kernel
theorem dX4_strike_6 : decode cX4_strike 6 = .ok (.bastore, 1) := by decide +kernel
theorem dX4_strike_7 : decode cX4_strike 7 = .ok (.aload_n 0, 1) := by decide +kernel
theorem dX4_strike_8 : decode cX4_strike 8 = .ok (.getfield 22, 3) := by decide +kernel
theorem dX4_strike_11 : decode cX4_strike 11 = .ok (.iconst 2, 1) := by decide +kernel
theorem dX4_strike_12 : decode cX4_strike 12 = .ok (.iload_n 1, 1) := by decide +kernel
theorem dX4_strike_13 : decode cX4_strike 13 = .ok (.imul, 1) := by decide +kernel
theorem dX4_strike_14 : decode cX4_strike 14 = .ok (.iconst (-1), 1) := by decide +kernel
theorem dX4_strike_15 : decode cX4_strike 15 = .ok (.iastore, 1) := by decide +kernel
theorem dX4_strike_16 : decode cX4_strike 16 = .ok (.aload_n 0, 1) := by decide +kernel
theorem dX4_strike_17 : decode cX4_strike 17 = .ok (.getfield 22, 3) := by decide +kernel
theorem dX4_strike_20 : decode cX4_strike 20 = .ok (.iconst 2, 1) := by decide +kernel
theorem dX4_strike_21 : decode cX4_strike 21 = .ok (.iload_n 1, 1) := by decide +kernel
theorem dX4_strike_22 : decode cX4_strike 22 = .ok (.imul, 1) := by decide +kernel
theorem dX4_strike_23 : decode cX4_strike 23 = .ok (.iconst 1, 1) := by decide +kernel
theorem dX4_strike_24 : decode cX4_strike 24 = .ok (.iadd, 1) := by decide +kernel
theorem dX4_strike_25 : decode cX4_strike 25 = .ok (.iconst (-1), 1) := by decide +kernel
theorem dX4_strike_26 : decode cX4_strike 26 = .ok (.iastore, 1) := by decide +kernel
theorem dX4_strike_27 : decode cX4_strike 27 = .ok (.return_, 1) := by decide +kernel
theorem dX4_die_0 : decode cX4_die 0 = .ok (.aload_n 0, 1) := by decide +kernel
theorem dX4_die_1 : decode cX4_die 1 = .ok (.getfield 18, 3) := by decide +kernel
theorem dX4_die_4 : decode cX4_die 4 = .ok (.iload_n 1, 1) := by decide +kernel
theorem dX4_die_5 : decode cX4_die 5 = .ok (.iconst 0, 1) := by decide +kernel
theorem dX4_die_6 : decode cX4_die 6 = .ok (.bastore, 1) := by decide +kernel
theorem dX4_die_7 : decode cX4_die 7 = .ok (.aload_n 0, 1) := by decide +kernel
theorem dX4_die_8 : decode cX4_die 8 = .ok (.iload_n 1, 1) := by decide +kernel
theorem dX4_die_9 : decode cX4_die 9 = .ok (.invokevirtual 125, 3) := by decide +kernel
theorem dX4_die_12 : decode cX4_die 12 = .ok (.aload_n 0, 1) := by decide +kernel
theorem dX4_die_13 : decode cX4_die 13 = .ok (.iload_n 1, 1) := by decide +kernel
theorem dX4_die_14 : decode cX4_die 14 = .ok (.invokevirtual 129, 3) := by decide +kernel
theorem dX4_die_17 : decode cX4_die 17 = .ok (.istore_n 2, 1) := by decide +kernel
theorem dX4_die_18 : decode cX4_die 18 = .ok (.iconst 0, 1) := by decide +kernel
theorem dX4_die_19 : decode cX4_die 19 = .ok (.istore_n 3, 1) := by decide +kernel
theorem dX4_die_20 : decode cX4_die 20 = .ok (.iconst 0, 1) := by decide +kernel
theorem dX4_die_21 : decode cX4_die 21 = .ok (.istore 4, 2) := by decide +kernel
theorem dX4_die_23 : decode cX4_die 23 = .ok (.iload 4, 2) := by decide +kernel
theorem dX4_die_25 : decode cX4_die 25 = .ok (.aload_n 0, 1) := by decide +kernel
theorem dX4_die_26 : decode cX4_die 26 = .ok (.getfield 50, 3) := by decide +kernel
theorem dX4_die_29 : decode cX4_die 29 = .ok (.getfield 57, 3) := by decide +kernel
theorem dX4_die_32 : decode cX4_die 32 = .ok (.if_icmp .ge 101, 3) := by decide +kernel
theorem dX4_die_35 : decode cX4_die 35 = .ok (.iconst 0, 1) := by decide +kernel
theorem dX4_die_36 : decode cX4_die 36 = .ok (.istore 5, 2) := by decide +kernel
theorem dX4_die_38 : decode cX4_die 38 = .ok (.iload 5, 2) := by decide +kernel
theorem dX4_die_40 : decode cX4_die 40 = .ok (.iconst 2, 1) := by decide +kernel
theorem dX4_die_41 : decode cX4_die 41 = .ok (.if_icmp .ge 86, 3) := by decide +kernel
theorem dX4_die_44 : decode cX4_die 44 = .ok (.aload_n 0, 1) := by decide +kernel
theorem dX4_die_45 : decode cX4_die 45 = .ok (.getfield 22, 3) := by decide +kernel
theorem dX4_die_48 : decode cX4_die 48 = .ok (.iconst 2, 1) := by decide +kernel
theorem dX4_die_49 : decode cX4_die 49 = .ok (.iload 4, 2) := by decide +kernel
theorem dX4_die_51 : decode cX4_die 51 = .ok (.imul, 1) := by decide +kernel
theorem dX4_die_52 : decode cX4_die 52 = .ok (.iload 5, 2) := by decide +kernel
theorem dX4_die_54 : decode cX4_die 54 = .ok (.iadd, 1) := by decide +kernel
theorem dX4_die_55 : decode cX4_die 55 = .ok (.iaload, 1) := by decide +kernel
theorem dX4_die_56 : decode cX4_die 56 = .ok (.iload_n 1, 1) := by decide +kernel
theorem dX4_die_57 : decode cX4_die 57 = .ok (.if_icmp .ne 64, 3) := by decide +kernel
theorem dX4_die_60 : decode cX4_die 60 = .ok (.iload_n 2, 1) := by decide +kernel
theorem dX4_die_61 : decode cX4_die 61 = .ok (.iconst (-1), 1) := by decide +kernel
theorem dX4_die_62 : decode cX4_die 62 = .ok (.if_icmp .eq 21, 3) := by decide +kernel
theorem dX4_die_65 : decode cX4_die 65 = .ok (.aload_n 0, 1) := by decide +kernel
theorem dX4_die_66 : decode cX4_die 66 = .ok (.iload_n 2, 1) := by decide +kernel
theorem dX4_die_67 : decode cX4_die 67 = .ok (.iload 4, 2) := by decide +kernel
theorem dX4_die_69 : decode cX4_die 69 = .ok (.iconst 1, 1) := by decide +kernel
theorem dX4_die_70 : decode cX4_die 70 = .ok (.iload 5, 2) := by decide +kernel
theorem dX4_die_72 : decode cX4_die 72 = .ok (.isub, 1) := by decide +kernel
theorem dX4_die_73 : decode cX4_die 73 = .ok (.invokevirtual 71, 3) := by decide +kernel
theorem dX4_die_76 : decode cX4_die 76 = .ok (.ifCond .ne 7, 3) := by decide +kernel
theorem dX4_die_79 : decode cX4_die 79 = .ok (.iconst 1, 1) := by decide +kernel
theorem dX4_die_80 : decode cX4_die 80 = .ok (.goto 4, 3) := by decide +kernel
theorem dX4_die_83 : decode cX4_die 83 = .ok (.iconst 0, 1) := by decide +kernel
theorem dX4_die_84 : decode cX4_die 84 = .ok (.istore 6, 2) := by decide +kernel
theorem dX4_die_86 : decode cX4_die 86 = .ok (.aload_n 0, 1) := by decide +kernel
theorem dX4_die_87 : decode cX4_die 87 = .ok (.getfield 22, 3) := by decide +kernel
theorem dX4_die_90 : decode cX4_die 90 = .ok (.iconst 2, 1) := by decide +kernel
theorem dX4_die_91 : decode cX4_die 91 = .ok (.iload 4, 2) := by decide +kernel
theorem dX4_die_93 : decode cX4_die 93 = .ok (.imul, 1) := by decide +kernel
theorem dX4_die_94 : decode cX4_die 94 = .ok (.iload 5, 2) := by decide +kernel
theorem dX4_die_96 : decode cX4_die 96 = .ok (.iadd, 1) := by decide +kernel
theorem dX4_die_97 : decode cX4_die 97 = .ok (.iload 6, 2) := by decide +kernel
theorem dX4_die_99 : decode cX4_die 99 = .ok (.ifCond .eq 7, 3) := by decide +kernel
theorem dX4_die_102 : decode cX4_die 102 = .ok (.iload_n 2, 1) := by decide +kernel
theorem dX4_die_103 : decode cX4_die 103 = .ok (.goto 4, 3) := by decide +kernel
theorem dX4_die_106 : decode cX4_die 106 = .ok (.iconst (-1), 1) := by decide +kernel
theorem dX4_die_107 : decode cX4_die 107 = .ok (.iastore, 1) := by decide +kernel
theorem dX4_die_108 : decode cX4_die 108 = .ok (.iload_n 3, 1) := by decide +kernel
theorem dX4_die_109 : decode cX4_die 109 = .ok (.iload 6, 2) := by decide +kernel
theorem dX4_die_111 : decode cX4_die 111 = .ok (.ifCond .eq 7, 3) := by decide +kernel
theorem dX4_die_114 : decode cX4_die 114 = .ok (.iconst 1, 1) := by decide +kernel
theorem dX4_die_115 : decode cX4_die 115 = .ok (.goto 4, 3) := by decide +kernel
theorem dX4_die_118 : decode cX4_die 118 = .ok (.iconst 0, 1) := by decide +kernel
theorem dX4_die_119 : decode cX4_die 119 = .ok (.iadd, 1) := by decide +kernel
theorem dX4_die_120 : decode cX4_die 120 = .ok (.istore_n 3, 1) := by decide +kernel
theorem dX4_die_121 : decode cX4_die 121 = .ok (.iinc 5 1, 3) := by decide +kernel
theorem dX4_die_124 : decode cX4_die 124 = .ok (.goto (-86), 3) := by decide +kernel
theorem dX4_die_127 : decode cX4_die 127 = .ok (.iinc 4 1, 3) := by decide +kernel
theorem dX4_die_130 : decode cX4_die 130 = .ok (.goto (-107), 3) := by decide +kernel
theorem dX4_die_133 : decode cX4_die 133 = .ok (.iload_n 2, 1) := by decide +kernel
theorem dX4_die_134 : decode cX4_die 134 = .ok (.iconst (-1), 1) := by decide +kernel
theorem dX4_die_135 : decode cX4_die 135 = .ok (.if_icmp .eq 14, 3) := by decide +kernel
theorem dX4_die_138 : decode cX4_die 138 = .ok (.aload_n 0, 1) := by decide +kernel
theorem dX4_die_139 : decode cX4_die 139 = .ok (.iload_n 2, 1) := by decide +kernel
theorem dX4_die_140 : decode cX4_die 140 = .ok (.aload_n 0, 1) := by decide +kernel
theorem dX4_die_141 : decode cX4_die 141 = .ok (.getfield 9, 3) := by decide +kernel
theorem dX4_die_144 : decode cX4_die 144 = .ok (.iload_n 1, 1) := by decide +kernel
theorem dX4_die_145 : decode cX4_die 145 = .ok (.iaload, 1) := by decide +kernel
theorem dX4_die_146 : decode cX4_die 146 = .ok (.invokevirtual 99, 3) := by decide +kernel
theorem dX4_die_149 : decode cX4_die 149 = .ok (.aload_n 0, 1) := by decide +kernel
theorem dX4_die_150 : decode cX4_die 150 = .ok (.getfield 9, 3) := by decide +kernel
theorem dX4_die_153 : decode cX4_die 153 = .ok (.iload_n 1, 1) := by decide +kernel
theorem dX4_die_154 : decode cX4_die 154 = .ok (.iconst 0, 1) := by decide +kernel
theorem dX4_die_155 : decode cX4_die 155 = .ok (.iastore, 1) := by decide +kernel
theorem dX4_die_156 : decode cX4_die 156 = .ok (.iload_n 3, 1) := by decide +kernel
theorem dX4_die_157 : decode cX4_die 157 = .ok (.ireturn, 1) := by decide +kernel
theorem dX4_endLoansOf_0 : decode cX4_endLoansOf 0 = .ok (.iconst 0, 1) := by decide +kernel
theorem dX4_endLoansOf_1 : decode cX4_endLoansOf 1 = .ok (.istore_n 2, 1) := by decide +kernel
theorem dX4_endLoansOf_2 : decode cX4_endLoansOf 2 = .ok (.iload_n 2, 1) := by decide +kernel
theorem dX4_endLoansOf_3 : decode cX4_endLoansOf 3 = .ok (.bipush 16, 2) := by decide +kernel
theorem dX4_endLoansOf_5 : decode cX4_endLoansOf 5 = .ok (.if_icmp .ge 36, 3) := by decide +kernel
theorem dX4_endLoansOf_8 : decode cX4_endLoansOf 8 = .ok (.aload_n 0, 1) := by decide +kernel
theorem dX4_endLoansOf_9 : decode cX4_endLoansOf 9 = .ok (.getfield 25, 3) := by decide +kernel
theorem dX4_endLoansOf_12 : decode cX4_endLoansOf 12 = .ok (.iload_n 2, 1) := by decide +kernel
theorem dX4_endLoansOf_13 : decode cX4_endLoansOf 13 = .ok (.iaload, 1) := by decide +kernel
theorem dX4_endLoansOf_14 : decode cX4_endLoansOf 14 = .ok (.iload_n 1, 1) := by decide +kernel
theorem dX4_endLoansOf_15 : decode cX4_endLoansOf 15 = .ok (.if_icmp .eq 13, 3) := by decide +kernel
theorem dX4_endLoansOf_18 : decode cX4_endLoansOf 18 = .ok (.aload_n 0, 1) := by decide +kernel
theorem dX4_endLoansOf_19 : decode cX4_endLoansOf 19 = .ok (.getfield 22, 3) := by decide +kernel
theorem dX4_endLoansOf_22 : decode cX4_endLoansOf 22 = .ok (.iload_n 2, 1) := by decide +kernel
theorem dX4_endLoansOf_23 : decode cX4_endLoansOf 23 = .ok (.iaload, 1) := by decide +kernel
theorem dX4_endLoansOf_24 : decode cX4_endLoansOf 24 = .ok (.iload_n 1, 1) := by decide +kernel
theorem dX4_endLoansOf_25 : decode cX4_endLoansOf 25 = .ok (.if_icmp .ne 10, 3) := by decide +kernel
theorem dX4_endLoansOf_28 : decode cX4_endLoansOf 28 = .ok (.aload_n 0, 1) := by decide +kernel
theorem dX4_endLoansOf_29 : decode cX4_endLoansOf 29 = .ok (.getfield 25, 3) := by decide +kernel
theorem dX4_endLoansOf_32 : decode cX4_endLoansOf 32 = .ok (.iload_n 2, 1) := by decide +kernel
theorem dX4_endLoansOf_33 : decode cX4_endLoansOf 33 = .ok (.iconst (-1), 1) := by decide +kernel
theorem dX4_endLoansOf_34 : decode cX4_endLoansOf 34 = .ok (.iastore, 1) := by decide +kernel
theorem dX4_endLoansOf_35 : decode cX4_endLoansOf 35 = .ok (.iinc 2 1, 3) := by decide +kernel
theorem dX4_endLoansOf_38 : decode cX4_endLoansOf 38 = .ok (.goto (-36), 3) := by decide +kernel
theorem dX4_endLoansOf_41 : decode cX4_endLoansOf 41 = .ok (.return_, 1) := by decide +kernel
theorem dX4_inheritorOf_0 : decode cX4_inheritorOf 0 = .ok (.iconst 1, 1) := by decide +kernel
theorem dX4_inheritorOf_1 : decode cX4_inheritorOf 1 = .ok (.iload_n 1, 1) := by decide +kernel
theorem dX4_inheritorOf_2 : decode cX4_inheritorOf 2 = .ok (.ishl, 1) := by decide +kernel
theorem dX4_inheritorOf_3 : decode cX4_inheritorOf 3 = .ok (.istore_n 2, 1) := by decide +kernel
theorem dX4_inheritorOf_4 : decode cX4_inheritorOf 4 = .ok (.aload_n 0, 1) := by decide +kernel
theorem dX4_inheritorOf_5 : decode cX4_inheritorOf 5 = .ok (.getfield 15, 3) := by decide +kernel
theorem dX4_inheritorOf_8 : decode cX4_inheritorOf 8 = .ok (.iload_n 1, 1) := by decide +kernel
theorem dX4_inheritorOf_9 : decode cX4_inheritorOf 9 = .ok (.iaload, 1) := by decide +kernel
theorem dX4_inheritorOf_10 : decode cX4_inheritorOf 10 = .ok (.istore_n 3, 1) := by decide +kernel
theorem dX4_inheritorOf_11 : decode cX4_inheritorOf 11 = .ok (.iconst 0, 1) := by decide +kernel
theorem dX4_inheritorOf_12 : decode cX4_inheritorOf 12 = .ok (.istore 4, 2) := by decide +kernel
theorem dX4_inheritorOf_14 : decode cX4_inheritorOf 14 = .ok (.iload 4, 2) := by decide +kernel
theorem dX4_inheritorOf_16 : decode cX4_inheritorOf 16 = .ok (.bipush 6, 2) := by decide +kernel
theorem dX4_inheritorOf_18 : decode cX4_inheritorOf 18 = .ok (.if_icmp .ge 49, 3) := by decide +kernel
theorem dX4_inheritorOf_21 : decode cX4_inheritorOf 21 = .ok (.iload_n 3, 1) := by decide +kernel
theorem dX4_inheritorOf_22 : decode cX4_inheritorOf 22 = .ok (.iconst (-1), 1) := by decide +kernel
theorem dX4_inheritorOf_23 : decode cX4_inheritorOf 23 = .ok (.if_icmp .eq 12, 3) := by decide +kernel
theorem dX4_inheritorOf_26 : decode cX4_inheritorOf 26 = .ok (.iload_n 2, 1) := by decide +kernel
theorem dX4_inheritorOf_27 : decode cX4_inheritorOf 27 = .ok (.iload_n 3, 1) := by decide +kernel
theorem dX4_inheritorOf_28 : decode cX4_inheritorOf 28 = .ok (.ishr, 1) := by decide +kernel
theorem dX4_inheritorOf_29 : decode cX4_inheritorOf 29 = .ok (.iconst 1, 1) := by decide +kernel
theorem dX4_inheritorOf_30 : decode cX4_inheritorOf 30 = .ok (.iand, 1) := by decide +kernel
theorem dX4_inheritorOf_31 : decode cX4_inheritorOf 31 = .ok (.iconst 1, 1) := by decide +kernel
theorem dX4_inheritorOf_32 : decode cX4_inheritorOf 32 = .ok (.if_icmp .ne 5, 3) := by decide +kernel
theorem dX4_inheritorOf_35 : decode cX4_inheritorOf 35 = .ok (.iconst (-1), 1) := by decide +kernel
theorem dX4_inheritorOf_36 : decode cX4_inheritorOf 36 = .ok (.ireturn, 1) := by decide +kernel
theorem dX4_inheritorOf_37 : decode cX4_inheritorOf 37 = .ok (.aload_n 0, 1) := by decide +kernel
theorem dX4_inheritorOf_38 : decode cX4_inheritorOf 38 = .ok (.getfield 18, 3) := by decide +kernel
theorem dX4_inheritorOf_41 : decode cX4_inheritorOf 41 = .ok (.iload_n 3, 1) := by decide +kernel
theorem dX4_inheritorOf_42 : decode cX4_inheritorOf 42 = .ok (.baload, 1) := by decide +kernel
theorem dX4_inheritorOf_43 : decode cX4_inheritorOf 43 = .ok (.ifCond .eq 5, 3) := by decide +kernel
theorem dX4_inheritorOf_46 : decode cX4_inheritorOf 46 = .ok (.iload_n 3, 1) := by decide +kernel
theorem dX4_inheritorOf_47 : decode cX4_inheritorOf 47 = .ok (.ireturn, 1) := by decide +kernel
theorem dX4_inheritorOf_48 : decode cX4_inheritorOf 48 = .ok (.iload_n 2, 1) := by decide +kernel
theorem dX4_inheritorOf_49 : decode cX4_inheritorOf 49 = .ok (.iconst 1, 1) := by decide +kernel
theorem dX4_inheritorOf_50 : decode cX4_inheritorOf 50 = .ok (.iload_n 3, 1) := by decide +kernel
theorem dX4_inheritorOf_51 : decode cX4_inheritorOf 51 = .ok (.ishl, 1) := by decide +kernel
theorem dX4_inheritorOf_52 : decode cX4_inheritorOf 52 = .ok (.ior, 1) := by decide +kernel
theorem dX4_inheritorOf_53 : decode cX4_inheritorOf 53 = .ok (.istore_n 2, 1) := by decide +kernel
theorem dX4_inheritorOf_54 : decode cX4_inheritorOf 54 = .ok (.aload_n 0, 1) := by decide +kernel
theorem dX4_inheritorOf_55 : decode cX4_inheritorOf 55 = .ok (.getfield 15, 3) := by decide +kernel
theorem dX4_inheritorOf_58 : decode cX4_inheritorOf 58 = .ok (.iload_n 3, 1) := by decide +kernel
theorem dX4_inheritorOf_59 : decode cX4_inheritorOf 59 = .ok (.iaload, 1) := by decide +kernel
theorem dX4_inheritorOf_60 : decode cX4_inheritorOf 60 = .ok (.istore_n 3, 1) := by decide +kernel
theorem dX4_inheritorOf_61 : decode cX4_inheritorOf 61 = .ok (.iinc 4 1, 3) := by decide +kernel
theorem dX4_inheritorOf_64 : decode cX4_inheritorOf 64 = .ok (.goto (-50), 3) := by decide +kernel
theorem dX4_inheritorOf_67 : decode cX4_inheritorOf 67 = .ok (.iconst (-1), 1) := by decide +kernel
theorem dX4_inheritorOf_68 : decode cX4_inheritorOf 68 = .ok (.ireturn, 1) := by decide +kernel
theorem dX4_areOnBothSides_0 : decode cX4_areOnBothSides 0 = .ok (.aload_n 0, 1) := by decide +kernel
theorem dX4_areOnBothSides_1 : decode cX4_areOnBothSides 1 = .ok (.iload_n 1, 1) := by decide +kernel
theorem dX4_areOnBothSides_2 : decode cX4_areOnBothSides 2 = .ok (.iconst 0, 1) := by decide +kernel
theorem dX4_areOnBothSides_3 : decode cX4_areOnBothSides 3 = .ok (.invokevirtual 108, 3) := by decide +kernel
theorem dX4_areOnBothSides_6 : decode cX4_areOnBothSides 6 = .ok (.istore 4, 2) := by decide +kernel
theorem dX4_areOnBothSides_8 : decode cX4_areOnBothSides 8 = .ok (.aload_n 0, 1) := by decide +kernel
theorem dX4_areOnBothSides_9 : decode cX4_areOnBothSides 9 = .ok (.iload_n 1, 1) := by decide +kernel
theorem dX4_areOnBothSides_10 : decode cX4_areOnBothSides 10 = .ok (.iconst 1, 1) := by decide +kernel
theorem dX4_areOnBothSides_11 : decode cX4_areOnBothSides 11 = .ok (.invokevirtual 108, 3) := by decide +kernel
theorem dX4_areOnBothSides_14 : decode cX4_areOnBothSides 14 = .ok (.istore 5, 2) := by decide +kernel
theorem dX4_areOnBothSides_16 : decode cX4_areOnBothSides 16 = .ok (.iload 4, 2) := by decide +kernel
theorem dX4_areOnBothSides_18 : decode cX4_areOnBothSides 18 = .ok (.iload_n 2, 1) := by decide +kernel
theorem dX4_areOnBothSides_19 : decode cX4_areOnBothSides 19 = .ok (.if_icmp .ne 9, 3) := by decide +kernel
theorem dX4_areOnBothSides_22 : decode cX4_areOnBothSides 22 = .ok (.iload 5, 2) := by decide +kernel
theorem dX4_areOnBothSides_24 : decode cX4_areOnBothSides 24 = .ok (.iload_n 3, 1) := by decide +kernel
theorem dX4_areOnBothSides_25 : decode cX4_areOnBothSides 25 = .ok (.if_icmp .eq 15, 3) := by decide +kernel
theorem dX4_areOnBothSides_28 : decode cX4_areOnBothSides 28 = .ok (.iload 4, 2) := by decide +kernel
theorem dX4_areOnBothSides_30 : decode cX4_areOnBothSides 30 = .ok (.iload_n 3, 1) := by decide +kernel
theorem dX4_areOnBothSides_31 : decode cX4_areOnBothSides 31 = .ok (.if_icmp .ne 13, 3) := by decide +kernel
theorem dX4_areOnBothSides_34 : decode cX4_areOnBothSides 34 = .ok (.iload 5, 2) := by decide +kernel
theorem dX4_areOnBothSides_36 : decode cX4_areOnBothSides 36 = .ok (.iload_n 2, 1) := by decide +kernel
theorem dX4_areOnBothSides_37 : decode cX4_areOnBothSides 37 = .ok (.if_icmp .ne 7, 3) := by decide +kernel
theorem dX4_areOnBothSides_40 : decode cX4_areOnBothSides 40 = .ok (.iconst 1, 1) := by decide +kernel
theorem dX4_areOnBothSides_41 : decode cX4_areOnBothSides 41 = .ok (.goto 4, 3) := by decide +kernel
theorem dX4_areOnBothSides_44 : decode cX4_areOnBothSides 44 = .ok (.iconst 0, 1) := by decide +kernel
theorem dX4_areOnBothSides_45 : decode cX4_areOnBothSides 45 = .ok (.ireturn, 1) := by decide +kernel
theorem dX4_feudBetween_0 : decode cX4_feudBetween 0 = .ok (.iconst (-1), 1) := by decide +kernel
theorem dX4_feudBetween_1 : decode cX4_feudBetween 1 = .ok (.istore_n 3, 1) := by decide +kernel
theorem dX4_feudBetween_2 : decode cX4_feudBetween 2 = .ok (.aload_n 0, 1) := by decide +kernel
theorem dX4_feudBetween_3 : decode cX4_feudBetween 3 = .ok (.getfield 18, 3) := by decide +kernel
theorem dX4_feudBetween_6 : decode cX4_feudBetween 6 = .ok (.iload_n 1, 1) := by decide +kernel
theorem dX4_feudBetween_7 : decode cX4_feudBetween 7 = .ok (.baload, 1) := by decide +kernel
theorem dX4_feudBetween_8 : decode cX4_feudBetween 8 = .ok (.ifCond .eq 12, 3) := by decide +kernel
theorem dX4_feudBetween_11 : decode cX4_feudBetween 11 = .ok (.aload_n 0, 1) := by decide +kernel
theorem dX4_feudBetween_12 : decode cX4_feudBetween 12 = .ok (.getfield 18, 3) := by decide +kernel
theorem dX4_feudBetween_15 : decode cX4_feudBetween 15 = .ok (.iload_n 2, 1) := by decide +kernel
theorem dX4_feudBetween_16 : decode cX4_feudBetween 16 = .ok (.baload, 1) := by decide +kernel
theorem dX4_feudBetween_17 : decode cX4_feudBetween 17 = .ok (.ifCond .ne 5, 3) := by decide +kernel
theorem dX4_feudBetween_20 : decode cX4_feudBetween 20 = .ok (.iconst (-1), 1) := by decide +kernel
theorem dX4_feudBetween_21 : decode cX4_feudBetween 21 = .ok (.ireturn, 1) := by decide +kernel
theorem dX4_feudBetween_22 : decode cX4_feudBetween 22 = .ok (.iconst 0, 1) := by decide +kernel
theorem dX4_feudBetween_23 : decode cX4_feudBetween 23 = .ok (.istore 4, 2) := by decide +kernel
theorem dX4_feudBetween_25 : decode cX4_feudBetween 25 = .ok (.iload 4, 2) := by decide +kernel
theorem dX4_feudBetween_27 : decode cX4_feudBetween 27 = .ok (.aload_n 0, 1) := by decide +kernel
theorem dX4_feudBetween_28 : decode cX4_feudBetween 28 = .ok (.getfield 50, 3) := by decide +kernel
theorem dX4_feudBetween_31 : decode cX4_feudBetween 31 = .ok (.getfield 57, 3) := by decide +kernel
theorem dX4_feudBetween_34 : decode cX4_feudBetween 34 = .ok (.if_icmp .ge 56, 3) := by decide +kernel
theorem dX4_feudBetween_37 : decode cX4_feudBetween 37 = .ok (.aload_n 0, 1) := by decide +kernel
theorem dX4_feudBetween_38 : decode cX4_feudBetween 38 = .ok (.iload 4, 2) := by decide +kernel
theorem dX4_feudBetween_40 : decode cX4_feudBetween 40 = .ok (.iload_n 1, 1) := by decide +kernel
theorem dX4_feudBetween_41 : decode cX4_feudBetween 41 = .ok (.iload_n 2, 1) := by decide +kernel
theorem dX4_feudBetween_42 : decode cX4_feudBetween 42 = .ok (.invokevirtual 133, 3) := by decide +kernel
theorem dX4_feudBetween_45 : decode cX4_feudBetween 45 = .ok (.ifCond .eq 39, 3) := by decide +kernel
theorem dX4_feudBetween_48 : decode cX4_feudBetween 48 = .ok (.iload_n 3, 1) := by decide +kernel
theorem dX4_feudBetween_49 : decode cX4_feudBetween 49 = .ok (.iconst (-1), 1) := by decide +kernel
theorem dX4_feudBetween_50 : decode cX4_feudBetween 50 = .ok (.if_icmp .eq 31, 3) := by decide +kernel
theorem dX4_feudBetween_53 : decode cX4_feudBetween 53 = .ok (.aload_n 0, 1) := by decide +kernel
theorem dX4_feudBetween_54 : decode cX4_feudBetween 54 = .ok (.getfield 50, 3) := by decide +kernel
theorem dX4_feudBetween_57 : decode cX4_feudBetween 57 = .ok (.getfield 75, 3) := by decide +kernel
theorem dX4_feudBetween_60 : decode cX4_feudBetween 60 = .ok (.iload 4, 2) := by decide +kernel
theorem dX4_feudBetween_62 : decode cX4_feudBetween 62 = .ok (.aaload, 1) := by decide +kernel
theorem dX4_feudBetween_63 : decode cX4_feudBetween 63 = .ok (.getfield 136, 3) := by decide +kernel
theorem dX4_feudBetween_66 : decode cX4_feudBetween 66 = .ok (.aload_n 0, 1) := by decide +kernel
theorem dX4_feudBetween_67 : decode cX4_feudBetween 67 = .ok (.getfield 50, 3) := by decide +kernel
theorem dX4_feudBetween_70 : decode cX4_feudBetween 70 = .ok (.getfield 75, 3) := by decide +kernel
theorem dX4_feudBetween_73 : decode cX4_feudBetween 73 = .ok (.iload_n 3, 1) := by decide +kernel
theorem dX4_feudBetween_74 : decode cX4_feudBetween 74 = .ok (.aaload, 1) := by decide +kernel
theorem dX4_feudBetween_75 : decode cX4_feudBetween 75 = .ok (.getfield 136, 3) := by decide +kernel
theorem dX4_feudBetween_78 : decode cX4_feudBetween 78 = .ok (.if_icmp .le 6, 3) := by decide +kernel
theorem dX4_feudBetween_81 : decode cX4_feudBetween 81 = .ok (.iload 4, 2) := by decide +kernel
theorem dX4_feudBetween_83 : decode cX4_feudBetween 83 = .ok (.istore_n 3, 1) := by decide +kernel
theorem dX4_feudBetween_84 : decode cX4_feudBetween 84 = .ok (.iinc 4 1, 3) := by decide +kernel
theorem dX4_feudBetween_87 : decode cX4_feudBetween 87 = .ok (.goto (-62), 3) := by decide +kernel
theorem dX4_feudBetween_90 : decode cX4_feudBetween 90 = .ok (.iload_n 3, 1) := by decide +kernel
theorem dX4_feudBetween_91 : decode cX4_feudBetween 91 = .ok (.ireturn, 1) := by decide +kernel
theorem dX4_feudsShared_0 : decode cX4_feudsShared 0 = .ok (.iconst 0, 1) := by decide +kernel
theorem dX4_feudsShared_1 : decode cX4_feudsShared 1 = .ok (.istore_n 3, 1) := by decide +kernel
theorem dX4_feudsShared_2 : decode cX4_feudsShared 2 = .ok (.iconst 0, 1) := by decide +kernel
theorem dX4_feudsShared_3 : decode cX4_feudsShared 3 = .ok (.istore 4, 2) := by decide +kernel
theorem dX4_feudsShared_5 : decode cX4_feudsShared 5 = .ok (.iload 4, 2) := by decide +kernel
theorem dX4_feudsShared_7 : decode cX4_feudsShared 7 = .ok (.aload_n 0, 1) := by decide +kernel
theorem dX4_feudsShared_8 : decode cX4_feudsShared 8 = .ok (.getfield 50, 3) := by decide +kernel
theorem dX4_feudsShared_11 : decode cX4_feudsShared 11 = .ok (.getfield 57, 3) := by decide +kernel
theorem dX4_feudsShared_14 : decode cX4_feudsShared 14 = .ok (.if_icmp .ge 23, 3) := by decide +kernel
theorem dX4_feudsShared_17 : decode cX4_feudsShared 17 = .ok (.aload_n 0, 1) := by decide +kernel
theorem dX4_feudsShared_18 : decode cX4_feudsShared 18 = .ok (.iload 4, 2) := by decide +kernel
theorem dX4_feudsShared_20 : decode cX4_feudsShared 20 = .ok (.iload_n 1, 1) := by decide +kernel
theorem dX4_feudsShared_21 : decode cX4_feudsShared 21 = .ok (.iload_n 2, 1) := by decide +kernel
theorem dX4_feudsShared_22 : decode cX4_feudsShared 22 = .ok (.invokevirtual 133, 3) := by decide +kernel
theorem dX4_feudsShared_25 : decode cX4_feudsShared 25 = .ok (.ifCond .eq 6, 3) := by decide +kernel
theorem dX4_feudsShared_28 : decode cX4_feudsShared 28 = .ok (.iinc 3 1, 3) := by decide +kernel
theorem dX4_feudsShared_31 : decode cX4_feudsShared 31 = .ok (.iinc 4 1, 3) := by decide +kernel
theorem dX4_feudsShared_34 : decode cX4_feudsShared 34 = .ok (.goto (-29), 3) := by decide +kernel
theorem dX4_feudsShared_37 : decode cX4_feudsShared 37 = .ok (.iload_n 3, 1) := by decide +kernel
theorem dX4_feudsShared_38 : decode cX4_feudsShared 38 = .ok (.ireturn, 1) := by decide +kernel
theorem dX4_keepHarm_0 : decode cX4_keepHarm 0 = .ok (.aload_n 0, 1) := by decide +kernel
theorem dX4_keepHarm_1 : decode cX4_keepHarm 1 = .ok (.getfield 37, 3) := by decide +kernel
theorem dX4_keepHarm_4 : decode cX4_keepHarm 4 = .ok (.bipush 12, 2) := by decide +kernel
theorem dX4_keepHarm_6 : decode cX4_keepHarm 6 = .ok (.if_icmp .lt 5, 3) := by decide +kernel
theorem dX4_keepHarm_9 : decode cX4_keepHarm 9 = .ok (.iconst 0, 1) := by decide +kernel
theorem dX4_keepHarm_10 : decode cX4_keepHarm 10 = .ok (.ireturn, 1) := by decide +kernel
theorem dX4_keepHarm_11 : decode cX4_keepHarm 11 = .ok (.aload_n 0, 1) := by decide +kernel
theorem dX4_keepHarm_12 : decode cX4_keepHarm 12 = .ok (.getfield 31, 3) := by decide +kernel
theorem dX4_keepHarm_15 : decode cX4_keepHarm 15 = .ok (.aload_n 0, 1) := by decide +kernel
theorem dX4_keepHarm_16 : decode cX4_keepHarm 16 = .ok (.getfield 37, 3) := by decide +kernel
theorem dX4_keepHarm_19 : decode cX4_keepHarm 19 = .ok (.iload_n 1, 1) := by decide +kernel
theorem dX4_keepHarm_20 : decode cX4_keepHarm 20 = .ok (.iastore, 1) := by decide +kernel
theorem dX4_keepHarm_21 : decode cX4_keepHarm 21 = .ok (.aload_n 0, 1) := by decide +kernel
theorem dX4_keepHarm_22 : decode cX4_keepHarm 22 = .ok (.getfield 34, 3) := by decide +kernel
theorem dX4_keepHarm_25 : decode cX4_keepHarm 25 = .ok (.aload_n 0, 1) := by decide +kernel
theorem dX4_keepHarm_26 : decode cX4_keepHarm 26 = .ok (.getfield 37, 3) := by decide +kernel
theorem dX4_keepHarm_29 : decode cX4_keepHarm 29 = .ok (.iload_n 2, 1) := by decide +kernel
theorem dX4_keepHarm_30 : decode cX4_keepHarm 30 = .ok (.iastore, 1) := by decide +kernel
theorem dX4_keepHarm_31 : decode cX4_keepHarm 31 = .ok (.aload_n 0, 1) := by decide +kernel
theorem dX4_keepHarm_32 : decode cX4_keepHarm 32 = .ok (.dup, 1) := by decide +kernel
theorem dX4_keepHarm_33 : decode cX4_keepHarm 33 = .ok (.getfield 37, 3) := by decide +kernel
theorem dX4_keepHarm_36 : decode cX4_keepHarm 36 = .ok (.iconst 1, 1) := by decide +kernel
theorem dX4_keepHarm_37 : decode cX4_keepHarm 37 = .ok (.iadd, 1) := by decide +kernel
theorem dX4_keepHarm_38 : decode cX4_keepHarm 38 = .ok (.putfield 37, 3) := by decide +kernel
theorem dX4_keepHarm_41 : decode cX4_keepHarm 41 = .ok (.iconst 1, 1) := by decide +kernel
theorem dX4_keepHarm_42 : decode cX4_keepHarm 42 = .ok (.ireturn, 1) := by decide +kernel
theorem dX4_keepRegister_0 : decode cX4_keepRegister 0 = .ok (.aload_n 0, 1) := by decide +kernel
theorem dX4_keepRegister_1 : decode cX4_keepRegister 1 = .ok (.getfield 47, 3) := by decide +kernel
theorem dX4_keepRegister_4 : decode cX4_keepRegister 4 = .ok (.bipush 8, 2) := by decide +kernel
theorem dX4_keepRegister_6 : decode cX4_keepRegister 6 = .ok (.if_icmp .lt 5, 3) := by decide +kernel
theorem dX4_keepRegister_9 : decode cX4_keepRegister 9 = .ok (.iconst 0, 1) := by decide +kernel
theorem dX4_keepRegister_10 : decode cX4_keepRegister 10 = .ok (.ireturn, 1) := by decide +kernel
theorem dX4_keepRegister_11 : decode cX4_keepRegister 11 = .ok (.aload_n 0, 1) := by decide +kernel
theorem dX4_keepRegister_12 : decode cX4_keepRegister 12 = .ok (.getfield 41, 3) := by decide +kernel
theorem dX4_keepRegister_15 : decode cX4_keepRegister 15 = .ok (.aload_n 0, 1) := by decide +kernel
theorem dX4_keepRegister_16 : decode cX4_keepRegister 16 = .ok (.getfield 47, 3) := by decide +kernel
theorem dX4_keepRegister_19 : decode cX4_keepRegister 19 = .ok (.iload_n 1, 1) := by decide +kernel
theorem dX4_keepRegister_20 : decode cX4_keepRegister 20 = .ok (.iastore, 1) := by decide +kernel
theorem dX4_keepRegister_21 : decode cX4_keepRegister 21 = .ok (.aload_n 0, 1) := by decide +kernel
theorem dX4_keepRegister_22 : decode cX4_keepRegister 22 = .ok (.getfield 44, 3) := by decide +kernel
theorem dX4_keepRegister_25 : decode cX4_keepRegister 25 = .ok (.aload_n 0, 1) := by decide +kernel
theorem dX4_keepRegister_26 : decode cX4_keepRegister 26 = .ok (.getfield 47, 3) := by decide +kernel
theorem dX4_keepRegister_29 : decode cX4_keepRegister 29 = .ok (.iload_n 2, 1) := by decide +kernel
theorem dX4_keepRegister_30 : decode cX4_keepRegister 30 = .ok (.iastore, 1) := by decide +kernel
theorem dX4_keepRegister_31 : decode cX4_keepRegister 31 = .ok (.aload_n 0, 1) := by decide +kernel
theorem dX4_keepRegister_32 : decode cX4_keepRegister 32 = .ok (.dup, 1) := by decide +kernel
theorem dX4_keepRegister_33 : decode cX4_keepRegister 33 = .ok (.getfield 47, 3) := by decide +kernel
theorem dX4_keepRegister_36 : decode cX4_keepRegister 36 = .ok (.iconst 1, 1) := by decide +kernel
theorem dX4_keepRegister_37 : decode cX4_keepRegister 37 = .ok (.iadd, 1) := by decide +kernel
theorem dX4_keepRegister_38 : decode cX4_keepRegister 38 = .ok (.putfield 47, 3) := by decide +kernel
theorem dX4_keepRegister_41 : decode cX4_keepRegister 41 = .ok (.iconst 1, 1) := by decide +kernel
theorem dX4_keepRegister_42 : decode cX4_keepRegister 42 = .ok (.ireturn, 1) := by decide +kernel
theorem dX4_registersFit_0 : decode cX4_registersFit 0 = .ok (.iconst 0, 1) := by decide +kernel
theorem dX4_registersFit_1 : decode cX4_registersFit 1 = .ok (.istore_n 3, 1) := by decide +kernel
theorem dX4_registersFit_2 : decode cX4_registersFit 2 = .ok (.iload_n 3, 1) := by decide +kernel
theorem dX4_registersFit_3 : decode cX4_registersFit 3 = .ok (.aload_n 0, 1) := by decide +kernel
theorem dX4_registersFit_4 : decode cX4_registersFit 4 = .ok (.getfield 47, 3) := by decide +kernel
theorem dX4_registersFit_7 : decode cX4_registersFit 7 = .ok (.if_icmp .ge 74, 3) := by decide +kernel
theorem dX4_registersFit_10 : decode cX4_registersFit 10 = .ok (.aload_n 0, 1) := by decide +kernel
theorem dX4_registersFit_11 : decode cX4_registersFit 11 = .ok (.getfield 41, 3) := by decide +kernel
theorem dX4_registersFit_14 : decode cX4_registersFit 14 = .ok (.iload_n 3, 1) := by decide +kernel
theorem dX4_registersFit_15 : decode cX4_registersFit 15 = .ok (.iaload, 1) := by decide +kernel
theorem dX4_registersFit_16 : decode cX4_registersFit 16 = .ok (.istore 4, 2) := by decide +kernel
theorem dX4_registersFit_18 : decode cX4_registersFit 18 = .ok (.aload_n 0, 1) := by decide +kernel
theorem dX4_registersFit_19 : decode cX4_registersFit 19 = .ok (.getfield 44, 3) := by decide +kernel
theorem dX4_registersFit_22 : decode cX4_registersFit 22 = .ok (.iload_n 3, 1) := by decide +kernel
theorem dX4_registersFit_23 : decode cX4_registersFit 23 = .ok (.iaload, 1) := by decide +kernel
theorem dX4_registersFit_24 : decode cX4_registersFit 24 = .ok (.istore 5, 2) := by decide +kernel
theorem dX4_registersFit_26 : decode cX4_registersFit 26 = .ok (.iload 4, 2) := by decide +kernel
theorem dX4_registersFit_28 : decode cX4_registersFit 28 = .ok (.iload_n 1, 1) := by decide +kernel
theorem dX4_registersFit_29 : decode cX4_registersFit 29 = .ok (.if_icmp .ne 9, 3) := by decide +kernel
theorem dX4_registersFit_32 : decode cX4_registersFit 32 = .ok (.iload 5, 2) := by decide +kernel
theorem dX4_registersFit_34 : decode cX4_registersFit 34 = .ok (.iload_n 2, 1) := by decide +kernel
theorem dX4_registersFit_35 : decode cX4_registersFit 35 = .ok (.if_icmp .eq 15, 3) := by decide +kernel
theorem dX4_registersFit_38 : decode cX4_registersFit 38 = .ok (.iload 4, 2) := by decide +kernel
theorem dX4_registersFit_40 : decode cX4_registersFit 40 = .ok (.iload_n 2, 1) := by decide +kernel
theorem dX4_registersFit_41 : decode cX4_registersFit 41 = .ok (.if_icmp .ne 13, 3) := by decide +kernel
theorem dX4_registersFit_44 : decode cX4_registersFit 44 = .ok (.iload 5, 2) := by decide +kernel
theorem dX4_registersFit_46 : decode cX4_registersFit 46 = .ok (.iload_n 1, 1) := by decide +kernel
theorem dX4_registersFit_47 : decode cX4_registersFit 47 = .ok (.if_icmp .ne 7, 3) := by decide +kernel
theorem dX4_registersFit_50 : decode cX4_registersFit 50 = .ok (.iconst 1, 1) := by decide +kernel
theorem dX4_registersFit_51 : decode cX4_registersFit 51 = .ok (.goto 4, 3) := by decide +kernel
theorem dX4_registersFit_54 : decode cX4_registersFit 54 = .ok (.iconst 0, 1) := by decide +kernel
theorem dX4_registersFit_55 : decode cX4_registersFit 55 = .ok (.istore 6, 2) := by decide +kernel
theorem dX4_registersFit_57 : decode cX4_registersFit 57 = .ok (.iload 6, 2) := by decide +kernel
theorem dX4_registersFit_59 : decode cX4_registersFit 59 = .ok (.ifCond .ne 16, 3) := by decide +kernel
theorem dX4_registersFit_62 : decode cX4_registersFit 62 = .ok (.aload_n 0, 1) := by decide +kernel
theorem dX4_registersFit_63 : decode cX4_registersFit 63 = .ok (.iload 4, 2) := by decide +kernel
theorem dX4_registersFit_65 : decode cX4_registersFit 65 = .ok (.iload 5, 2) := by decide +kernel
theorem dX4_registersFit_67 : decode cX4_registersFit 67 = .ok (.invokevirtual 139, 3) := by decide +kernel
theorem dX4_registersFit_70 : decode cX4_registersFit 70 = .ok (.ifCond .ne 5, 3) := by decide +kernel
theorem dX4_registersFit_73 : decode cX4_registersFit 73 = .ok (.iconst 0, 1) := by decide +kernel
theorem dX4_registersFit_74 : decode cX4_registersFit 74 = .ok (.ireturn, 1) := by decide +kernel
theorem dX4_registersFit_75 : decode cX4_registersFit 75 = .ok (.iinc 3 1, 3) := by decide +kernel
theorem dX4_registersFit_78 : decode cX4_registersFit 78 = .ok (.goto (-76), 3) := by decide +kernel
theorem dX4_registersFit_81 : decode cX4_registersFit 81 = .ok (.iconst 1, 1) := by decide +kernel
theorem dX4_registersFit_82 : decode cX4_registersFit 82 = .ok (.ireturn, 1) := by decide +kernel
theorem dX4_endSeason_0 : decode cX4_endSeason 0 = .ok (.aload_n 0, 1) := by decide +kernel
theorem dX4_endSeason_1 : decode cX4_endSeason 1 = .ok (.invokevirtual 142, 3) := by decide +kernel
theorem dX4_endSeason_4 : decode cX4_endSeason 4 = .ok (.istore_n 1, 1) := by decide +kernel
theorem dX4_endSeason_5 : decode cX4_endSeason 5 = .ok (.iconst 0, 1) := by decide +kernel
theorem dX4_endSeason_6 : decode cX4_endSeason 6 = .ok (.istore_n 2, 1) := by decide +kernel
theorem dX4_endSeason_7 : decode cX4_endSeason 7 = .ok (.iload_n 2, 1) := by decide +kernel
theorem dX4_endSeason_8 : decode cX4_endSeason 8 = .ok (.bipush 16, 2) := by decide +kernel
theorem dX4_endSeason_10 : decode cX4_endSeason 10 = .ok (.if_icmp .ge 16, 3) := by decide +kernel
theorem dX4_endSeason_13 : decode cX4_endSeason 13 = .ok (.aload_n 0, 1) := by decide +kernel
theorem dX4_endSeason_14 : decode cX4_endSeason 14 = .ok (.getfield 25, 3) := by decide +kernel
theorem dX4_endSeason_17 : decode cX4_endSeason 17 = .ok (.iload_n 2, 1) := by decide +kernel
theorem dX4_endSeason_18 : decode cX4_endSeason 18 = .ok (.iconst (-1), 1) := by decide +kernel
theorem dX4_endSeason_19 : decode cX4_endSeason 19 = .ok (.iastore, 1) := by decide +kernel
theorem dX4_endSeason_20 : decode cX4_endSeason 20 = .ok (.iinc 2 1, 3) := by decide +kernel
theorem dX4_endSeason_23 : decode cX4_endSeason 23 = .ok (.goto (-16), 3) := by decide +kernel
theorem dX4_endSeason_26 : decode cX4_endSeason 26 = .ok (.iconst 0, 1) := by decide +kernel
theorem dX4_endSeason_27 : decode cX4_endSeason 27 = .ok (.istore_n 2, 1) := by decide +kernel
theorem dX4_endSeason_28 : decode cX4_endSeason 28 = .ok (.iload_n 2, 1) := by decide +kernel
theorem dX4_endSeason_29 : decode cX4_endSeason 29 = .ok (.bipush 6, 2) := by decide +kernel
theorem dX4_endSeason_31 : decode cX4_endSeason 31 = .ok (.if_icmp .ge 24, 3) := by decide +kernel
theorem dX4_endSeason_34 : decode cX4_endSeason 34 = .ok (.aload_n 0, 1) := by decide +kernel
theorem dX4_endSeason_35 : decode cX4_endSeason 35 = .ok (.getfield 18, 3) := by decide +kernel
theorem dX4_endSeason_38 : decode cX4_endSeason 38 = .ok (.iload_n 2, 1) := by decide +kernel
theorem dX4_endSeason_39 : decode cX4_endSeason 39 = .ok (.baload, 1) := by decide +kernel
theorem dX4_endSeason_40 : decode cX4_endSeason 40 = .ok (.ifCond .eq 9, 3) := by decide +kernel
theorem dX4_endSeason_43 : decode cX4_endSeason 43 = .ok (.aload_n 0, 1) := by decide +kernel
theorem dX4_endSeason_44 : decode cX4_endSeason 44 = .ok (.iload_n 2, 1) := by decide +kernel
theorem dX4_endSeason_45 : decode cX4_endSeason 45 = .ok (.iconst 2, 1) := by decide +kernel
theorem dX4_endSeason_46 : decode cX4_endSeason 46 = .ok (.invokevirtual 99, 3) := by decide +kernel
theorem dX4_endSeason_49 : decode cX4_endSeason 49 = .ok (.iinc 2 1, 3) := by decide +kernel
theorem dX4_endSeason_52 : decode cX4_endSeason 52 = .ok (.goto (-24), 3) := by decide +kernel
theorem dX4_endSeason_55 : decode cX4_endSeason 55 = .ok (.iload_n 1, 1) := by decide +kernel
theorem dX4_endSeason_56 : decode cX4_endSeason 56 = .ok (.ireturn, 1) := by decide +kernel
theorem dX4_sidesOf_0 : decode cX4_sidesOf 0 = .ok (.iconst 0, 1) := by decide +kernel
theorem dX4_sidesOf_1 : decode cX4_sidesOf 1 = .ok (.istore_n 2, 1) := by decide +kernel
theorem dX4_sidesOf_2 : decode cX4_sidesOf 2 = .ok (.iconst 0, 1) := by decide +kernel
theorem dX4_sidesOf_3 : decode cX4_sidesOf 3 = .ok (.istore_n 3, 1) := by decide +kernel
theorem dX4_sidesOf_4 : decode cX4_sidesOf 4 = .ok (.iload_n 3, 1) := by decide +kernel
theorem dX4_sidesOf_5 : decode cX4_sidesOf 5 = .ok (.aload_n 0, 1) := by decide +kernel
theorem dX4_sidesOf_6 : decode cX4_sidesOf 6 = .ok (.getfield 50, 3) := by decide +kernel
theorem dX4_sidesOf_9 : decode cX4_sidesOf 9 = .ok (.getfield 57, 3) := by decide +kernel
theorem dX4_sidesOf_12 : decode cX4_sidesOf 12 = .ok (.if_icmp .ge 46, 3) := by decide +kernel
theorem dX4_sidesOf_15 : decode cX4_sidesOf 15 = .ok (.iconst 0, 1) := by decide +kernel
theorem dX4_sidesOf_16 : decode cX4_sidesOf 16 = .ok (.istore 4, 2) := by decide +kernel
theorem dX4_sidesOf_18 : decode cX4_sidesOf 18 = .ok (.iload 4, 2) := by decide +kernel
theorem dX4_sidesOf_20 : decode cX4_sidesOf 20 = .ok (.iconst 2, 1) := by decide +kernel
theorem dX4_sidesOf_21 : decode cX4_sidesOf 21 = .ok (.if_icmp .ge 31, 3) := by decide +kernel
theorem dX4_sidesOf_24 : decode cX4_sidesOf 24 = .ok (.aload_n 0, 1) := by decide +kernel
theorem dX4_sidesOf_25 : decode cX4_sidesOf 25 = .ok (.iload_n 3, 1) := by decide +kernel
theorem dX4_sidesOf_26 : decode cX4_sidesOf 26 = .ok (.iload 4, 2) := by decide +kernel
theorem dX4_sidesOf_28 : decode cX4_sidesOf 28 = .ok (.invokevirtual 108, 3) := by decide +kernel
theorem dX4_sidesOf_31 : decode cX4_sidesOf 31 = .ok (.iload_n 1, 1) := by decide +kernel
theorem dX4_sidesOf_32 : decode cX4_sidesOf 32 = .ok (.if_icmp .ne 14, 3) := by decide +kernel
theorem dX4_sidesOf_35 : decode cX4_sidesOf 35 = .ok (.iload_n 2, 1) := by decide +kernel
theorem dX4_sidesOf_36 : decode cX4_sidesOf 36 = .ok (.iconst 1, 1) := by decide +kernel
theorem dX4_sidesOf_37 : decode cX4_sidesOf 37 = .ok (.iconst 2, 1) := by decide +kernel
theorem dX4_sidesOf_38 : decode cX4_sidesOf 38 = .ok (.iload_n 3, 1) := by decide +kernel
theorem dX4_sidesOf_39 : decode cX4_sidesOf 39 = .ok (.imul, 1) := by decide +kernel
theorem dX4_sidesOf_40 : decode cX4_sidesOf 40 = .ok (.iload 4, 2) := by decide +kernel
theorem dX4_sidesOf_42 : decode cX4_sidesOf 42 = .ok (.iadd, 1) := by decide +kernel
theorem dX4_sidesOf_43 : decode cX4_sidesOf 43 = .ok (.ishl, 1) := by decide +kernel
theorem dX4_sidesOf_44 : decode cX4_sidesOf 44 = .ok (.ior, 1) := by decide +kernel
theorem dX4_sidesOf_45 : decode cX4_sidesOf 45 = .ok (.istore_n 2, 1) := by decide +kernel
theorem dX4_sidesOf_46 : decode cX4_sidesOf 46 = .ok (.iinc 4 1, 3) := by decide +kernel
theorem dX4_sidesOf_49 : decode cX4_sidesOf 49 = .ok (.goto (-31), 3) := by decide +kernel
theorem dX4_sidesOf_52 : decode cX4_sidesOf 52 = .ok (.iinc 3 1, 3) := by decide +kernel
theorem dX4_sidesOf_55 : decode cX4_sidesOf 55 = .ok (.goto (-51), 3) := by decide +kernel
theorem dX4_sidesOf_58 : decode cX4_sidesOf 58 = .ok (.iload_n 2, 1) := by decide +kernel
theorem dX4_sidesOf_59 : decode cX4_sidesOf 59 = .ok (.ireturn, 1) := by decide +kernel
theorem dX4_struckFeuds_0 : decode cX4_struckFeuds 0 = .ok (.iconst 0, 1) := by decide +kernel
theorem dX4_struckFeuds_1 : decode cX4_struckFeuds 1 = .ok (.istore_n 1, 1) := by decide +kernel
theorem dX4_struckFeuds_2 : decode cX4_struckFeuds 2 = .ok (.iconst 0, 1) := by decide +kernel
theorem dX4_struckFeuds_3 : decode cX4_struckFeuds 3 = .ok (.istore_n 2, 1) := by decide +kernel
theorem dX4_struckFeuds_4 : decode cX4_struckFeuds 4 = .ok (.iload_n 2, 1) := by decide +kernel
theorem dX4_struckFeuds_5 : decode cX4_struckFeuds 5 = .ok (.aload_n 0, 1) := by decide +kernel
theorem dX4_struckFeuds_6 : decode cX4_struckFeuds 6 = .ok (.getfield 50, 3) := by decide +kernel
theorem dX4_struckFeuds_9 : decode cX4_struckFeuds 9 = .ok (.getfield 57, 3) := by decide +kernel
theorem dX4_struckFeuds_12 : decode cX4_struckFeuds 12 = .ok (.if_icmp .ge 26, 3) := by decide +kernel
theorem dX4_struckFeuds_15 : decode cX4_struckFeuds 15 = .ok (.iload_n 1, 1) := by decide +kernel
theorem dX4_struckFeuds_16 : decode cX4_struckFeuds 16 = .ok (.aload_n 0, 1) := by decide +kernel
theorem dX4_struckFeuds_17 : decode cX4_struckFeuds 17 = .ok (.getfield 28, 3) := by decide +kernel
theorem dX4_struckFeuds_20 : decode cX4_struckFeuds 20 = .ok (.iload_n 2, 1) := by decide +kernel
theorem dX4_struckFeuds_21 : decode cX4_struckFeuds 21 = .ok (.baload, 1) := by decide +kernel
theorem dX4_struckFeuds_22 : decode cX4_struckFeuds 22 = .ok (.ifCond .eq 7, 3) := by decide +kernel
theorem dX4_struckFeuds_25 : decode cX4_struckFeuds 25 = .ok (.iconst 1, 1) := by decide +kernel
theorem dX4_struckFeuds_26 : decode cX4_struckFeuds 26 = .ok (.goto 4, 3) := by decide +kernel
theorem dX4_struckFeuds_29 : decode cX4_struckFeuds 29 = .ok (.iconst 0, 1) := by decide +kernel
theorem dX4_struckFeuds_30 : decode cX4_struckFeuds 30 = .ok (.iadd, 1) := by decide +kernel
theorem dX4_struckFeuds_31 : decode cX4_struckFeuds 31 = .ok (.istore_n 1, 1) := by decide +kernel
theorem dX4_struckFeuds_32 : decode cX4_struckFeuds 32 = .ok (.iinc 2 1, 3) := by decide +kernel
theorem dX4_struckFeuds_35 : decode cX4_struckFeuds 35 = .ok (.goto (-31), 3) := by decide +kernel
theorem dX4_struckFeuds_38 : decode cX4_struckFeuds 38 = .ok (.iload_n 1, 1) := by decide +kernel
theorem dX4_struckFeuds_39 : decode cX4_struckFeuds 39 = .ok (.ireturn, 1) := by decide +kernel
theorem dX4_peopleAlive_0 : decode cX4_peopleAlive 0 = .ok (.iconst 0, 1) := by decide +kernel
theorem dX4_peopleAlive_1 : decode cX4_peopleAlive 1 = .ok (.istore_n 1, 1) := by decide +kernel
theorem dX4_peopleAlive_2 : decode cX4_peopleAlive 2 = .ok (.iconst 0, 1) := by decide +kernel
theorem dX4_peopleAlive_3 : decode cX4_peopleAlive 3 = .ok (.istore_n 2, 1) := by decide +kernel
theorem dX4_peopleAlive_4 : decode cX4_peopleAlive 4 = .ok (.iload_n 2, 1) := by decide +kernel
theorem dX4_peopleAlive_5 : decode cX4_peopleAlive 5 = .ok (.bipush 6, 2) := by decide +kernel
theorem dX4_peopleAlive_7 : decode cX4_peopleAlive 7 = .ok (.if_icmp .ge 26, 3) := by decide +kernel
theorem dX4_peopleAlive_10 : decode cX4_peopleAlive 10 = .ok (.iload_n 1, 1) := by decide +kernel
theorem dX4_peopleAlive_11 : decode cX4_peopleAlive 11 = .ok (.aload_n 0, 1) := by decide +kernel
theorem dX4_peopleAlive_12 : decode cX4_peopleAlive 12 = .ok (.getfield 18, 3) := by decide +kernel
theorem dX4_peopleAlive_15 : decode cX4_peopleAlive 15 = .ok (.iload_n 2, 1) := by decide +kernel
theorem dX4_peopleAlive_16 : decode cX4_peopleAlive 16 = .ok (.baload, 1) := by decide +kernel
theorem dX4_peopleAlive_17 : decode cX4_peopleAlive 17 = .ok (.ifCond .eq 7, 3) := by decide +kernel
theorem dX4_peopleAlive_20 : decode cX4_peopleAlive 20 = .ok (.iconst 1, 1) := by decide +kernel
theorem dX4_peopleAlive_21 : decode cX4_peopleAlive 21 = .ok (.goto 4, 3) := by decide +kernel
theorem dX4_peopleAlive_24 : decode cX4_peopleAlive 24 = .ok (.iconst 0, 1) := by decide +kernel
theorem dX4_peopleAlive_25 : decode cX4_peopleAlive 25 = .ok (.iadd, 1) := by decide +kernel
theorem dX4_peopleAlive_26 : decode cX4_peopleAlive 26 = .ok (.istore_n 1, 1) := by decide +kernel
theorem dX4_peopleAlive_27 : decode cX4_peopleAlive 27 = .ok (.iinc 2 1, 3) := by decide +kernel
theorem dX4_peopleAlive_30 : decode cX4_peopleAlive 30 = .ok (.goto (-26), 3) := by decide +kernel
theorem dX4_peopleAlive_33 : decode cX4_peopleAlive 33 = .ok (.iload_n 1, 1) := by decide +kernel
theorem dX4_peopleAlive_34 : decode cX4_peopleAlive 34 = .ok (.ireturn, 1) := by decide +kernel
theorem dX4_moneyOfAll_0 : decode cX4_moneyOfAll 0 = .ok (.iconst 0, 1) := by decide +kernel
theorem dX4_moneyOfAll_1 : decode cX4_moneyOfAll 1 = .ok (.istore_n 1, 1) := by decide +kernel
theorem dX4_moneyOfAll_2 : decode cX4_moneyOfAll 2 = .ok (.iconst 0, 1) := by decide +kernel
theorem dX4_moneyOfAll_3 : decode cX4_moneyOfAll 3 = .ok (.istore_n 2, 1) := by decide +kernel
theorem dX4_moneyOfAll_4 : decode cX4_moneyOfAll 4 = .ok (.iload_n 2, 1) := by decide +kernel
theorem dX4_moneyOfAll_5 : decode cX4_moneyOfAll 5 = .ok (.bipush 6, 2) := by decide +kernel
theorem dX4_moneyOfAll_7 : decode cX4_moneyOfAll 7 = .ok (.if_icmp .ge 18, 3) := by decide +kernel
theorem dX4_moneyOfAll_10 : decode cX4_moneyOfAll 10 = .ok (.iload_n 1, 1) := by decide +kernel
theorem dX4_moneyOfAll_11 : decode cX4_moneyOfAll 11 = .ok (.aload_n 0, 1) := by decide +kernel
theorem dX4_moneyOfAll_12 : decode cX4_moneyOfAll 12 = .ok (.getfield 9, 3) := by decide +kernel
theorem dX4_moneyOfAll_15 : decode cX4_moneyOfAll 15 = .ok (.iload_n 2, 1) := by decide +kernel
theorem dX4_moneyOfAll_16 : decode cX4_moneyOfAll 16 = .ok (.iaload, 1) := by decide +kernel
theorem dX4_moneyOfAll_17 : decode cX4_moneyOfAll 17 = .ok (.iadd, 1) := by decide +kernel
theorem dX4_moneyOfAll_18 : decode cX4_moneyOfAll 18 = .ok (.istore_n 1, 1) := by decide +kernel
theorem dX4_moneyOfAll_19 : decode cX4_moneyOfAll 19 = .ok (.iinc 2 1, 3) := by decide +kernel
theorem dX4_moneyOfAll_22 : decode cX4_moneyOfAll 22 = .ok (.goto (-18), 3) := by decide +kernel
theorem dX4_moneyOfAll_25 : decode cX4_moneyOfAll 25 = .ok (.iload_n 1, 1) := by decide +kernel
theorem dX4_moneyOfAll_26 : decode cX4_moneyOfAll 26 = .ok (.ireturn, 1) := by decide +kernel
theorem dX4_openSides_0 : decode cX4_openSides 0 = .ok (.iconst 0, 1) := by decide +kernel
theorem dX4_openSides_1 : decode cX4_openSides 1 = .ok (.istore_n 1, 1) := by decide +kernel
theorem dX4_openSides_2 : decode cX4_openSides 2 = .ok (.iconst 0, 1) := by decide +kernel
theorem dX4_openSides_3 : decode cX4_openSides 3 = .ok (.istore_n 2, 1) := by decide +kernel
theorem dX4_openSides_4 : decode cX4_openSides 4 = .ok (.iload_n 2, 1) := by decide +kernel
theorem dX4_openSides_5 : decode cX4_openSides 5 = .ok (.aload_n 0, 1) := by decide +kernel
theorem dX4_openSides_6 : decode cX4_openSides 6 = .ok (.getfield 50, 3) := by decide +kernel
theorem dX4_openSides_9 : decode cX4_openSides 9 = .ok (.getfield 57, 3) := by decide +kernel
theorem dX4_openSides_12 : decode cX4_openSides 12 = .ok (.if_icmp .ge 43, 3) := by decide +kernel
theorem dX4_openSides_15 : decode cX4_openSides 15 = .ok (.iload_n 1, 1) := by decide +kernel
theorem dX4_openSides_16 : decode cX4_openSides 16 = .ok (.aload_n 0, 1) := by decide +kernel
theorem dX4_openSides_17 : decode cX4_openSides 17 = .ok (.iload_n 2, 1) := by decide +kernel
theorem dX4_openSides_18 : decode cX4_openSides 18 = .ok (.iconst 0, 1) := by decide +kernel
theorem dX4_openSides_19 : decode cX4_openSides 19 = .ok (.invokevirtual 85, 3) := by decide +kernel
theorem dX4_openSides_22 : decode cX4_openSides 22 = .ok (.ifCond .eq 7, 3) := by decide +kernel
theorem dX4_openSides_25 : decode cX4_openSides 25 = .ok (.iconst 1, 1) := by decide +kernel
theorem dX4_openSides_26 : decode cX4_openSides 26 = .ok (.goto 4, 3) := by decide +kernel
theorem dX4_openSides_29 : decode cX4_openSides 29 = .ok (.iconst 0, 1) := by decide +kernel
theorem dX4_openSides_30 : decode cX4_openSides 30 = .ok (.iadd, 1) := by decide +kernel
theorem dX4_openSides_31 : decode cX4_openSides 31 = .ok (.istore_n 1, 1) := by decide +kernel
theorem dX4_openSides_32 : decode cX4_openSides 32 = .ok (.iload_n 1, 1) := by decide +kernel
theorem dX4_openSides_33 : decode cX4_openSides 33 = .ok (.aload_n 0, 1) := by decide +kernel
theorem dX4_openSides_34 : decode cX4_openSides 34 = .ok (.iload_n 2, 1) := by decide +kernel
theorem dX4_openSides_35 : decode cX4_openSides 35 = .ok (.iconst 1, 1) := by decide +kernel
theorem dX4_openSides_36 : decode cX4_openSides 36 = .ok (.invokevirtual 85, 3) := by decide +kernel
theorem dX4_openSides_39 : decode cX4_openSides 39 = .ok (.ifCond .eq 7, 3) := by decide +kernel
theorem dX4_openSides_42 : decode cX4_openSides 42 = .ok (.iconst 1, 1) := by decide +kernel
theorem dX4_openSides_43 : decode cX4_openSides 43 = .ok (.goto 4, 3) := by decide +kernel
theorem dX4_openSides_46 : decode cX4_openSides 46 = .ok (.iconst 0, 1) := by decide +kernel
theorem dX4_openSides_47 : decode cX4_openSides 47 = .ok (.iadd, 1) := by decide +kernel
theorem dX4_openSides_48 : decode cX4_openSides 48 = .ok (.istore_n 1, 1) := by decide +kernel
theorem dX4_openSides_49 : decode cX4_openSides 49 = .ok (.iinc 2 1, 3) := by decide +kernel
theorem dX4_openSides_52 : decode cX4_openSides 52 = .ok (.goto (-48), 3) := by decide +kernel
theorem dX4_openSides_55 : decode cX4_openSides 55 = .ok (.iload_n 1, 1) := by decide +kernel
theorem dX4_openSides_56 : decode cX4_openSides 56 = .ok (.ireturn, 1) := by decide +kernel
theorem dX4_lentSides_0 : decode cX4_lentSides 0 = .ok (.bipush 16, 2) := by decide +kernel
theorem dX4_lentSides_2 : decode cX4_lentSides 2 = .ok (.aload_n 0, 1) := by decide +kernel
theorem dX4_lentSides_3 : decode cX4_lentSides 3 = .ok (.getfield 25, 3) := by decide +kernel
theorem dX4_lentSides_6 : decode cX4_lentSides 6 = .ok (.bipush 16, 2) := by decide +kernel
theorem dX4_lentSides_8 : decode cX4_lentSides 8 = .ok (.iconst (-1), 1) := by decide +kernel
theorem dX4_lentSides_9 : decode cX4_lentSides 9 = .ok (.invokestatic 145, 3) := by decide +kernel
theorem dX4_lentSides_12 : decode cX4_lentSides 12 = .ok (.isub, 1) := by decide +kernel
theorem dX4_lentSides_13 : decode cX4_lentSides 13 = .ok (.ireturn, 1) := by decide +kernel
theorem dX5_init_0 : decode cX5_init 0 = .ok (.aload_n 0, 1) := by decide +kernel
theorem dX5_init_1 : decode cX5_init 1 = .ok (.iload_n 1, 1) := by decide +kernel
theorem dX5_init_2 : decode cX5_init 2 = .ok (.invokespecial 3, 3) := by decide +kernel
theorem dX5_init_5 : decode cX5_init 5 = .ok (.return_, 1) := by decide +kernel
theorem dX5_kind_0 : decode cX5_kind 0 = .ok (.iconst 2, 1) := by decide +kernel
theorem dX5_kind_1 : decode cX5_kind 1 = .ok (.ireturn, 1) := by decide +kernel
theorem dX5_fullPrice_0 : decode cX5_fullPrice 0 = .ok (.iconst 1, 1) := by decide +kernel
theorem dX5_fullPrice_1 : decode cX5_fullPrice 1 = .ok (.ireturn, 1) := by decide +kernel
theorem dX5_mostOpenAtPeace_0 : decode cX5_mostOpenAtPeace 0 = .ok (.iconst 1, 1) := by decide +kernel
theorem dX5_mostOpenAtPeace_1 : decode cX5_mostOpenAtPeace 1 = .ok (.ireturn, 1) := by decide +kernel
theorem dX6_init_0 : decode cX6_init 0 = .ok (.aload_n 0, 1) := by decide +kernel
theorem dX6_init_1 : decode cX6_init 1 = .ok (.invokespecial 3, 3) := by decide +kernel
theorem dX6_init_4 : decode cX6_init 4 = .ok (.aload_n 0, 1) := by decide +kernel
theorem dX6_init_5 : decode cX6_init 5 = .ok (.bipush 64, 2) := by decide +kernel
theorem dX6_init_7 : decode cX6_init 7 = .ok (.newarray .int, 2) := by decide +kernel
theorem dX6_init_9 : decode cX6_init 9 = .ok (.putfield 9, 3) := by decide +kernel
theorem dX6_init_12 : decode cX6_init 12 = .ok (.aload_n 0, 1) := by decide +kernel
theorem dX6_init_13 : decode cX6_init 13 = .ok (.bipush 36, 2) := by decide +kernel
theorem dX6_init_15 : decode cX6_init 15 = .ok (.newarray .int, 2) := by decide +kernel
theorem dX6_init_17 : decode cX6_init 17 = .ok (.putfield 15, 3) := by decide +kernel
theorem dX6_init_20 : decode cX6_init 20 = .ok (.aload_n 0, 1) := by decide +kernel
theorem dX6_init_21 : decode cX6_init 21 = .ok (.iconst 0, 1) := by decide +kernel
theorem dX6_init_22 : decode cX6_init 22 = .ok (.putfield 18, 3) := by decide +kernel
theorem dX6_init_25 : decode cX6_init 25 = .ok (.aload_n 0, 1) := by decide +kernel
theorem dX6_init_26 : decode cX6_init 26 = .ok (.iconst 0, 1) := by decide +kernel
theorem dX6_init_27 : decode cX6_init 27 = .ok (.putfield 22, 3) := by decide +kernel
theorem dX6_init_30 : decode cX6_init 30 = .ok (.return_, 1) := by decide +kernel
theorem dX6_pairUp_0 : decode cX6_pairUp 0 = .ok (.aload_n 0, 1) := by decide +kernel
theorem dX6_pairUp_1 : decode cX6_pairUp 1 = .ok (.aload_n 1, 1) := by decide +kernel
theorem dX6_pairUp_2 : decode cX6_pairUp 2 = .ok (.invokevirtual 25, 3) := by decide +kernel
theorem dX6_pairUp_5 : decode cX6_pairUp 5 = .ok (.aload_n 0, 1) := by decide +kernel
theorem dX6_pairUp_6 : decode cX6_pairUp 6 = .ok (.getfield 9, 3) := by decide +kernel
theorem dX6_pairUp_9 : decode cX6_pairUp 9 = .ok (.iconst 0, 1) := by decide +kernel
theorem dX6_pairUp_10 : decode cX6_pairUp 10 = .ok (.iconst 0, 1) := by decide +kernel
theorem dX6_pairUp_11 : decode cX6_pairUp 11 = .ok (.iastore, 1) := by decide +kernel
theorem dX6_pairUp_12 : decode cX6_pairUp 12 = .ok (.iconst 1, 1) := by decide +kernel
theorem dX6_pairUp_13 : decode cX6_pairUp 13 = .ok (.istore_n 2, 1) := by decide +kernel
theorem dX6_pairUp_14 : decode cX6_pairUp 14 = .ok (.iload_n 2, 1) := by decide +kernel
theorem dX6_pairUp_15 : decode cX6_pairUp 15 = .ok (.bipush 64, 2) := by decide +kernel
theorem dX6_pairUp_17 : decode cX6_pairUp 17 = .ok (.if_icmp .ge 20, 3) := by decide +kernel
theorem dX6_pairUp_20 : decode cX6_pairUp 20 = .ok (.aload_n 0, 1) := by decide +kernel
theorem dX6_pairUp_21 : decode cX6_pairUp 21 = .ok (.getfield 9, 3) := by decide +kernel
theorem dX6_pairUp_24 : decode cX6_pairUp 24 = .ok (.iload_n 2, 1) := by decide +kernel
theorem dX6_pairUp_25 : decode cX6_pairUp 25 = .ok (.aload_n 0, 1) := by decide +kernel
theorem dX6_pairUp_26 : decode cX6_pairUp 26 = .ok (.iload_n 2, 1) := by decide +kernel
theorem dX6_pairUp_27 : decode cX6_pairUp 27 = .ok (.invokevirtual 29, 3) := by decide +kernel
theorem dX6_pairUp_30 : decode cX6_pairUp 30 = .ok (.iastore, 1) := by decide +kernel
theorem dX6_pairUp_31 : decode cX6_pairUp 31 = .ok (.iinc 2 1, 3) := by decide +kernel
theorem dX6_pairUp_34 : decode cX6_pairUp 34 = .ok (.goto (-20), 3) := by decide +kernel
theorem dX6_pairUp_37 : decode cX6_pairUp 37 = .ok (.aload_n 0, 1) := by decide +kernel
theorem dX6_pairUp_38 : decode cX6_pairUp 38 = .ok (.getfield 9, 3) := by decide +kernel
theorem dX6_pairUp_41 : decode cX6_pairUp 41 = .ok (.bipush 63, 2) := by decide +kernel
theorem dX6_pairUp_43 : decode cX6_pairUp 43 = .ok (.iaload, 1) := by decide +kernel
theorem dX6_pairUp_44 : decode cX6_pairUp 44 = .ok (.istore_n 2, 1) := by decide +kernel
theorem dX6_pairUp_45 : decode cX6_pairUp 45 = .ok (.aload_n 0, 1) := by decide +kernel
theorem dX6_pairUp_46 : decode cX6_pairUp 46 = .ok (.iload_n 2, 1) := by decide +kernel
theorem dX6_pairUp_47 : decode cX6_pairUp 47 = .ok (.iconst 4, 1) := by decide +kernel
theorem dX6_pairUp_48 : decode cX6_pairUp 48 = .ok (.iadd, 1) := by decide +kernel
theorem dX6_pairUp_49 : decode cX6_pairUp 49 = .ok (.iconst 1, 1) := by decide +kernel
theorem dX6_pairUp_50 : decode cX6_pairUp 50 = .ok (.isub, 1) := by decide +kernel
theorem dX6_pairUp_51 : decode cX6_pairUp 51 = .ok (.iconst 4, 1) := by decide +kernel
theorem dX6_pairUp_52 : decode cX6_pairUp 52 = .ok (.idiv, 1) := by decide +kernel
theorem dX6_pairUp_53 : decode cX6_pairUp 53 = .ok (.putfield 18, 3) := by decide +kernel
theorem dX6_pairUp_56 : decode cX6_pairUp 56 = .ok (.aload_n 0, 1) := by decide +kernel
theorem dX6_pairUp_57 : decode cX6_pairUp 57 = .ok (.iconst 4, 1) := by decide +kernel
theorem dX6_pairUp_58 : decode cX6_pairUp 58 = .ok (.aload_n 0, 1) := by decide +kernel
theorem dX6_pairUp_59 : decode cX6_pairUp 59 = .ok (.getfield 18, 3) := by decide +kernel
theorem dX6_pairUp_62 : decode cX6_pairUp 62 = .ok (.imul, 1) := by decide +kernel
theorem dX6_pairUp_63 : decode cX6_pairUp 63 = .ok (.iload_n 2, 1) := by decide +kernel
theorem dX6_pairUp_64 : decode cX6_pairUp 64 = .ok (.isub, 1) := by decide +kernel
theorem dX6_pairUp_65 : decode cX6_pairUp 65 = .ok (.putfield 22, 3) := by decide +kernel
theorem dX6_pairUp_68 : decode cX6_pairUp 68 = .ok (.return_, 1) := by decide +kernel
theorem dX6_reckonGains_0 : decode cX6_reckonGains 0 = .ok (.iconst 0, 1) := by decide +kernel
theorem dX6_reckonGains_1 : decode cX6_reckonGains 1 = .ok (.istore_n 2, 1) := by decide +kernel
theorem dX6_reckonGains_2 : decode cX6_reckonGains 2 = .ok (.iload_n 2, 1) := by decide +kernel
theorem dX6_reckonGains_3 : decode cX6_reckonGains 3 = .ok (.bipush 6, 2) := by decide +kernel
theorem dX6_reckonGains_5 : decode cX6_reckonGains 5 = .ok (.if_icmp .ge 83, 3) := by decide +kernel
theorem dX6_reckonGains_8 : decode cX6_reckonGains 8 = .ok (.iconst 0, 1) := by decide +kernel
theorem dX6_reckonGains_9 : decode cX6_reckonGains 9 = .ok (.istore_n 3, 1) := by decide +kernel
theorem dX6_reckonGains_10 : decode cX6_reckonGains 10 = .ok (.iload_n 3, 1) := by decide +kernel
theorem dX6_reckonGains_11 : decode cX6_reckonGains 11 = .ok (.bipush 6, 2) := by decide +kernel
theorem dX6_reckonGains_13 : decode cX6_reckonGains 13 = .ok (.if_icmp .ge 69, 3) := by decide +kernel
theorem dX6_reckonGains_16 : decode cX6_reckonGains 16 = .ok (.iload_n 2, 1) := by decide +kernel
theorem dX6_reckonGains_17 : decode cX6_reckonGains 17 = .ok (.iload_n 3, 1) := by decide +kernel
theorem dX6_reckonGains_18 : decode cX6_reckonGains 18 = .ok (.if_icmp .eq 25, 3) := by decide +kernel
theorem dX6_reckonGains_21 : decode cX6_reckonGains 21 = .ok (.aload_n 1, 1) := by decide +kernel
theorem dX6_reckonGains_22 : decode cX6_reckonGains 22 = .ok (.getfield 33, 3) := by decide +kernel
theorem dX6_reckonGains_25 : decode cX6_reckonGains 25 = .ok (.iload_n 2, 1) := by decide +kernel
theorem dX6_reckonGains_26 : decode cX6_reckonGains 26 = .ok (.baload, 1) := by decide +kernel
theorem dX6_reckonGains_27 : decode cX6_reckonGains 27 = .ok (.ifCond .eq 16, 3) := by decide +kernel
theorem dX6_reckonGains_30 : decode cX6_reckonGains 30 = .ok (.aload_n 1, 1) := by decide +kernel
theorem dX6_reckonGains_31 : decode cX6_reckonGains 31 = .ok (.getfield 33, 3) := by decide +kernel
theorem dX6_reckonGains_34 : decode cX6_reckonGains 34 = .ok (.iload_n 3, 1) := by decide +kernel
theorem dX6_reckonGains_35 : decode cX6_reckonGains 35 = .ok (.baload, 1) := by decide +kernel
theorem dX6_reckonGains_36 : decode cX6_reckonGains 36 = .ok (.ifCond .eq 7, 3) := by decide +kernel
theorem dX6_reckonGains_39 : decode cX6_reckonGains 39 = .ok (.iconst 1, 1) := by decide +kernel
theorem dX6_reckonGains_40 : decode cX6_reckonGains 40 = .ok (.goto 4, 3) := by decide +kernel
theorem dX6_reckonGains_43 : decode cX6_reckonGains 43 = .ok (.iconst 0, 1) := by decide +kernel
theorem dX6_reckonGains_44 : decode cX6_reckonGains 44 = .ok (.istore 4, 2) := by decide +kernel
theorem dX6_reckonGains_46 : decode cX6_reckonGains 46 = .ok (.aload_n 0, 1) := by decide +kernel
theorem dX6_reckonGains_47 : decode cX6_reckonGains 47 = .ok (.getfield 15, 3) := by decide +kernel
theorem dX6_reckonGains_50 : decode cX6_reckonGains 50 = .ok (.bipush 6, 2) := by decide +kernel
theorem dX6_reckonGains_52 : decode cX6_reckonGains 52 = .ok (.iload_n 2, 1) := by decide +kernel
theorem dX6_reckonGains_53 : decode cX6_reckonGains 53 = .ok (.imul, 1) := by decide +kernel
theorem dX6_reckonGains_54 : decode cX6_reckonGains 54 = .ok (.iload_n 3, 1) := by decide +kernel
theorem dX6_reckonGains_55 : decode cX6_reckonGains 55 = .ok (.iadd, 1) := by decide +kernel
theorem dX6_reckonGains_56 : decode cX6_reckonGains 56 = .ok (.iload 4, 2) := by decide +kernel
theorem dX6_reckonGains_58 : decode cX6_reckonGains 58 = .ok (.ifCond .eq 16, 3) := by decide +kernel
theorem dX6_reckonGains_61 : decode cX6_reckonGains 61 = .ok (.iconst 4, 1) := by decide +kernel
theorem dX6_reckonGains_62 : decode cX6_reckonGains 62 = .ok (.aload_n 1, 1) := by decide +kernel
theorem dX6_reckonGains_63 : decode cX6_reckonGains 63 = .ok (.iload_n 2, 1) := by decide +kernel
theorem dX6_reckonGains_64 : decode cX6_reckonGains 64 = .ok (.iload_n 3, 1) := by decide +kernel
theorem dX6_reckonGains_65 : decode cX6_reckonGains 65 = .ok (.invokevirtual 39, 3) := by decide +kernel
theorem dX6_reckonGains_68 : decode cX6_reckonGains 68 = .ok (.imul, 1) := by decide +kernel
theorem dX6_reckonGains_69 : decode cX6_reckonGains 69 = .ok (.iconst 1, 1) := by decide +kernel
theorem dX6_reckonGains_70 : decode cX6_reckonGains 70 = .ok (.isub, 1) := by decide +kernel
theorem dX6_reckonGains_71 : decode cX6_reckonGains 71 = .ok (.goto 4, 3) := by decide +kernel
theorem dX6_reckonGains_74 : decode cX6_reckonGains 74 = .ok (.iconst (-1), 1) := by decide +kernel
theorem dX6_reckonGains_75 : decode cX6_reckonGains 75 = .ok (.iastore, 1) := by decide +kernel
theorem dX6_reckonGains_76 : decode cX6_reckonGains 76 = .ok (.iinc 3 1, 3) := by decide +kernel
theorem dX6_reckonGains_79 : decode cX6_reckonGains 79 = .ok (.goto (-69), 3) := by decide +kernel
theorem dX6_reckonGains_82 : decode cX6_reckonGains 82 = .ok (.iinc 2 1, 3) := by decide +kernel
theorem dX6_reckonGains_85 : decode cX6_reckonGains 85 = .ok (.goto (-83), 3) := by decide +kernel
theorem dX6_reckonGains_88 : decode cX6_reckonGains 88 = .ok (.return_, 1) := by decide +kernel
theorem dX6_bestOf_0 : decode cX6_bestOf 0 = .ok (.iload_n 1, 1) := by decide +kernel
theorem dX6_bestOf_1 : decode cX6_bestOf 1 = .ok (.invokestatic 43, 3) := by decide +kernel
theorem dX6_bestOf_4 : decode cX6_bestOf 4 = .ok (.istore_n 2, 1) := by decide +kernel
theorem dX6_bestOf_5 : decode cX6_bestOf 5 = .ok (.iload_n 1, 1) := by decide +kernel
theorem dX6_bestOf_6 : decode cX6_bestOf 6 = .ok (.iconst 1, 1) := by decide +kernel
theorem dX6_bestOf_7 : decode cX6_bestOf 7 = .ok (.iload_n 2, 1) := by decide +kernel
theorem dX6_bestOf_8 : decode cX6_bestOf 8 = .ok (.ishl, 1) := by decide +kernel
theorem dX6_bestOf_9 : decode cX6_bestOf 9 = .ok (.iconst (-1), 1) := by decide +kernel
theorem dX6_bestOf_10 : decode cX6_bestOf 10 = .ok (.ixor, 1) := by decide +kernel
theorem dX6_bestOf_11 : decode cX6_bestOf 11 = .ok (.iand, 1) := by decide +kernel
theorem dX6_bestOf_12 : decode cX6_bestOf 12 = .ok (.istore_n 3, 1) := by decide +kernel
theorem dX6_bestOf_13 : decode cX6_bestOf 13 = .ok (.aload_n 0, 1) := by decide +kernel
theorem dX6_bestOf_14 : decode cX6_bestOf 14 = .ok (.getfield 9, 3) := by decide +kernel
theorem dX6_bestOf_17 : decode cX6_bestOf 17 = .ok (.iload_n 3, 1) := by decide +kernel
theorem dX6_bestOf_18 : decode cX6_bestOf 18 = .ok (.iaload, 1) := by decide +kernel
theorem dX6_bestOf_19 : decode cX6_bestOf 19 = .ok (.istore 4, 2) := by decide +kernel
theorem dX6_bestOf_21 : decode cX6_bestOf 21 = .ok (.iload_n 2, 1) := by decide +kernel
theorem dX6_bestOf_22 : decode cX6_bestOf 22 = .ok (.iconst 1, 1) := by decide +kernel
theorem dX6_bestOf_23 : decode cX6_bestOf 23 = .ok (.iadd, 1) := by decide +kernel
theorem dX6_bestOf_24 : decode cX6_bestOf 24 = .ok (.istore 5, 2) := by decide +kernel
theorem dX6_bestOf_26 : decode cX6_bestOf 26 = .ok (.iload 5, 2) := by decide +kernel
theorem dX6_bestOf_28 : decode cX6_bestOf 28 = .ok (.bipush 6, 2) := by decide +kernel
theorem dX6_bestOf_30 : decode cX6_bestOf 30 = .ok (.if_icmp .ge 56, 3) := by decide +kernel
theorem dX6_bestOf_33 : decode cX6_bestOf 33 = .ok (.iload_n 3, 1) := by decide +kernel
theorem dX6_bestOf_34 : decode cX6_bestOf 34 = .ok (.iload 5, 2) := by decide +kernel
theorem dX6_bestOf_36 : decode cX6_bestOf 36 = .ok (.ishr, 1) := by decide +kernel
theorem dX6_bestOf_37 : decode cX6_bestOf 37 = .ok (.iconst 1, 1) := by decide +kernel
theorem dX6_bestOf_38 : decode cX6_bestOf 38 = .ok (.iand, 1) := by decide +kernel
theorem dX6_bestOf_39 : decode cX6_bestOf 39 = .ok (.iconst 1, 1) := by decide +kernel
theorem dX6_bestOf_40 : decode cX6_bestOf 40 = .ok (.if_icmp .ne 40, 3) := by decide +kernel
theorem dX6_bestOf_43 : decode cX6_bestOf 43 = .ok (.aload_n 0, 1) := by decide +kernel
theorem dX6_bestOf_44 : decode cX6_bestOf 44 = .ok (.getfield 9, 3) := by decide +kernel
theorem dX6_bestOf_47 : decode cX6_bestOf 47 = .ok (.iload_n 3, 1) := by decide +kernel
theorem dX6_bestOf_48 : decode cX6_bestOf 48 = .ok (.iconst 1, 1) := by decide +kernel
theorem dX6_bestOf_49 : decode cX6_bestOf 49 = .ok (.iload 5, 2) := by decide +kernel
theorem dX6_bestOf_51 : decode cX6_bestOf 51 = .ok (.ishl, 1) := by decide +kernel
theorem dX6_bestOf_52 : decode cX6_bestOf 52 = .ok (.iconst (-1), 1) := by decide +kernel
theorem dX6_bestOf_53 : decode cX6_bestOf 53 = .ok (.ixor, 1) := by decide +kernel
theorem dX6_bestOf_54 : decode cX6_bestOf 54 = .ok (.iand, 1) := by decide +kernel
theorem dX6_bestOf_55 : decode cX6_bestOf 55 = .ok (.iaload, 1) := by decide +kernel
theorem dX6_bestOf_56 : decode cX6_bestOf 56 = .ok (.aload_n 0, 1) := by decide +kernel
theorem dX6_bestOf_57 : decode cX6_bestOf 57 = .ok (.getfield 15, 3) := by decide +kernel
theorem dX6_bestOf_60 : decode cX6_bestOf 60 = .ok (.bipush 6, 2) := by decide +kernel
theorem dX6_bestOf_62 : decode cX6_bestOf 62 = .ok (.iload_n 2, 1) := by decide +kernel
theorem dX6_bestOf_63 : decode cX6_bestOf 63 = .ok (.imul, 1) := by decide +kernel
theorem dX6_bestOf_64 : decode cX6_bestOf 64 = .ok (.iload 5, 2) := by decide +kernel
theorem dX6_bestOf_66 : decode cX6_bestOf 66 = .ok (.iadd, 1) := by decide +kernel
theorem dX6_bestOf_67 : decode cX6_bestOf 67 = .ok (.iaload, 1) := by decide +kernel
theorem dX6_bestOf_68 : decode cX6_bestOf 68 = .ok (.iadd, 1) := by decide +kernel
theorem dX6_bestOf_69 : decode cX6_bestOf 69 = .ok (.istore 6, 2) := by decide +kernel
theorem dX6_bestOf_71 : decode cX6_bestOf 71 = .ok (.iload 4, 2) := by decide +kernel
theorem dX6_bestOf_73 : decode cX6_bestOf 73 = .ok (.iload 6, 2) := by decide +kernel
theorem dX6_bestOf_75 : decode cX6_bestOf 75 = .ok (.invokestatic 46, 3) := by decide +kernel
theorem dX6_bestOf_78 : decode cX6_bestOf 78 = .ok (.istore 4, 2) := by decide +kernel
theorem dX6_bestOf_80 : decode cX6_bestOf 80 = .ok (.iinc 5 1, 3) := by decide +kernel
theorem dX6_bestOf_83 : decode cX6_bestOf 83 = .ok (.goto (-57), 3) := by decide +kernel
theorem dX6_bestOf_86 : decode cX6_bestOf 86 = .ok (.iload 4, 2) := by decide +kernel
theorem dX6_bestOf_88 : decode cX6_bestOf 88 = .ok (.ireturn, 1) := by decide +kernel
theorem dX6_leastOf_0 : decode cX6_leastOf 0 = .ok (.iconst 0, 1) := by decide +kernel
theorem dX6_leastOf_1 : decode cX6_leastOf 1 = .ok (.istore_n 1, 1) := by decide +kernel
theorem dX6_leastOf_2 : decode cX6_leastOf 2 = .ok (.iload_n 1, 1) := by decide +kernel
theorem dX6_leastOf_3 : decode cX6_leastOf 3 = .ok (.bipush 6, 2) := by decide +kernel
theorem dX6_leastOf_5 : decode cX6_leastOf 5 = .ok (.if_icmp .ge 20, 3) := by decide +kernel
theorem dX6_leastOf_8 : decode cX6_leastOf 8 = .ok (.iload_n 0, 1) := by decide +kernel
theorem dX6_leastOf_9 : decode cX6_leastOf 9 = .ok (.iload_n 1, 1) := by decide +kernel
theorem dX6_leastOf_10 : decode cX6_leastOf 10 = .ok (.ishr, 1) := by decide +kernel
theorem dX6_leastOf_11 : decode cX6_leastOf 11 = .ok (.iconst 1, 1) := by decide +kernel
theorem dX6_leastOf_12 : decode cX6_leastOf 12 = .ok (.iand, 1) := by decide +kernel
theorem dX6_leastOf_13 : decode cX6_leastOf 13 = .ok (.iconst 1, 1) := by decide +kernel
theorem dX6_leastOf_14 : decode cX6_leastOf 14 = .ok (.if_icmp .ne 5, 3) := by decide +kernel
theorem dX6_leastOf_17 : decode cX6_leastOf 17 = .ok (.iload_n 1, 1) := by decide +kernel
theorem dX6_leastOf_18 : decode cX6_leastOf 18 = .ok (.ireturn, 1) := by decide +kernel
theorem dX6_leastOf_19 : decode cX6_leastOf 19 = .ok (.iinc 1 1, 3) := by decide +kernel
theorem dX6_leastOf_22 : decode cX6_leastOf 22 = .ok (.goto (-20), 3) := by decide +kernel
theorem dX6_leastOf_25 : decode cX6_leastOf 25 = .ok (.iconst 0, 1) := by decide +kernel
theorem dX6_leastOf_26 : decode cX6_leastOf 26 = .ok (.ireturn, 1) := by decide +kernel
theorem dX7_init_0 : decode cX7_init 0 = .ok (.aload_n 0, 1) := by decide +kernel
theorem dX7_init_1 : decode cX7_init 1 = .ok (.invokespecial 3, 3) := by decide +kernel
theorem dX7_init_4 : decode cX7_init 4 = .ok (.aload_n 0, 1) := by decide +kernel
theorem dX7_init_5 : decode cX7_init 5 = .ok (.bipush 9, 2) := by decide +kernel
theorem dX7_init_7 : decode cX7_init 7 = .ok (.newarray .long, 2) := by decide +kernel
theorem dX7_init_9 : decode cX7_init 9 = .ok (.putfield 9, 3) := by decide +kernel
theorem dX7_init_12 : decode cX7_init 12 = .ok (.aload_n 0, 1) := by decide +kernel
theorem dX7_init_13 : decode cX7_init 13 = .ok (.lconst 1, 1) := by decide +kernel
theorem dX7_init_14 : decode cX7_init 14 = .ok (.putfield 15, 3) := by decide +kernel
theorem dX7_init_17 : decode cX7_init 17 = .ok (.return_, 1) := by decide +kernel
theorem dX7_reckon_0 : decode cX7_reckon 0 = .ok (.aload_n 0, 1) := by decide +kernel
theorem dX7_reckon_1 : decode cX7_reckon 1 = .ok (.getfield 9, 3) := by decide +kernel
theorem dX7_reckon_4 : decode cX7_reckon 4 = .ok (.lconst 0, 1) := by decide +kernel
theorem dX7_reckon_5 : decode cX7_reckon 5 = .ok (.invokestatic 19, 3) := by decide +kernel
theorem dX7_reckon_8 : decode cX7_reckon 8 = .ok (.aload_n 0, 1) := by decide +kernel
theorem dX7_reckon_9 : decode cX7_reckon 9 = .ok (.getfield 9, 3) := by decide +kernel
theorem dX7_reckon_12 : decode cX7_reckon 12 = .ok (.iconst 0, 1) := by decide +kernel
theorem dX7_reckon_13 : decode cX7_reckon 13 = .ok (.lconst 1, 1) := by decide +kernel
theorem dX7_reckon_14 : decode cX7_reckon 14 = .ok (.lastore, 1) := by decide +kernel
theorem dX7_reckon_15 : decode cX7_reckon 15 = .ok (.aload_n 0, 1) := by decide +kernel
theorem dX7_reckon_16 : decode cX7_reckon 16 = .ok (.lconst 1, 1) := by decide +kernel
theorem dX7_reckon_17 : decode cX7_reckon 17 = .ok (.putfield 15, 3) := by decide +kernel
theorem dX7_reckon_20 : decode cX7_reckon 20 = .ok (.iconst 0, 1) := by decide +kernel
theorem dX7_reckon_21 : decode cX7_reckon 21 = .ok (.istore_n 3, 1) := by decide +kernel
theorem dX7_reckon_22 : decode cX7_reckon 22 = .ok (.iload_n 3, 1) := by decide +kernel
theorem dX7_reckon_23 : decode cX7_reckon 23 = .ok (.aload_n 1, 1) := by decide +kernel
theorem dX7_reckon_24 : decode cX7_reckon 24 = .ok (.getfield 25, 3) := by decide +kernel
theorem dX7_reckon_27 : decode cX7_reckon 27 = .ok (.getfield 31, 3) := by decide +kernel
theorem dX7_reckon_30 : decode cX7_reckon 30 = .ok (.if_icmp .ge 88, 3) := by decide +kernel
theorem dX7_reckon_33 : decode cX7_reckon 33 = .ok (.aload_n 1, 1) := by decide +kernel
theorem dX7_reckon_34 : decode cX7_reckon 34 = .ok (.getfield 37, 3) := by decide +kernel
theorem dX7_reckon_37 : decode cX7_reckon 37 = .ok (.iload_n 3, 1) := by decide +kernel
theorem dX7_reckon_38 : decode cX7_reckon 38 = .ok (.baload, 1) := by decide +kernel
theorem dX7_reckon_39 : decode cX7_reckon 39 = .ok (.ifCond .ne 73, 3) := by decide +kernel
theorem dX7_reckon_42 : decode cX7_reckon 42 = .ok (.aload_n 1, 1) := by decide +kernel
theorem dX7_reckon_43 : decode cX7_reckon 43 = .ok (.getfield 25, 3) := by decide +kernel
theorem dX7_reckon_46 : decode cX7_reckon 46 = .ok (.getfield 41, 3) := by decide +kernel
theorem dX7_reckon_49 : decode cX7_reckon 49 = .ok (.iload_n 3, 1) := by decide +kernel
theorem dX7_reckon_50 : decode cX7_reckon 50 = .ok (.aaload, 1) := by decide +kernel
theorem dX7_reckon_51 : decode cX7_reckon 51 = .ok (.getfield 45, 3) := by decide +kernel
theorem dX7_reckon_54 : decode cX7_reckon 54 = .ok (.i2l, 1) := by decide +kernel
theorem dX7_reckon_55 : decode cX7_reckon 55 = .ok (.lstore 4, 2) := by decide +kernel
theorem dX7_reckon_57 : decode cX7_reckon 57 = .ok (.iload_n 2, 1) := by decide +kernel
theorem dX7_reckon_58 : decode cX7_reckon 58 = .ok (.iconst 2, 1) := by decide +kernel
theorem dX7_reckon_59 : decode cX7_reckon 59 = .ok (.if_icmp .ne 11, 3) := by decide +kernel
theorem dX7_reckon_62 : decode cX7_reckon 62 = .ok (.lload 4, 2) := by decide +kernel
theorem dX7_reckon_64 : decode cX7_reckon 64 = .ok (.lload 4, 2) := by decide +kernel
theorem dX7_reckon_66 : decode cX7_reckon 66 = .ok (.lmul, 1) := by decide +kernel
theorem dX7_reckon_67 : decode cX7_reckon 67 = .ok (.goto 5, 3) := by decide +kernel
theorem dX7_reckon_70 : decode cX7_reckon 70 = .ok (.lload 4, 2) := by decide +kernel
theorem dX7_reckon_72 : decode cX7_reckon 72 = .ok (.lstore 6, 2) := by decide +kernel
theorem dX7_reckon_74 : decode cX7_reckon 74 = .ok (.iload_n 2, 1) := by decide +kernel
theorem dX7_reckon_75 : decode cX7_reckon 75 = .ok (.iconst 2, 1) := by decide +kernel
theorem dX7_reckon_76 : decode cX7_reckon 76 = .ok (.if_icmp .ne 9, 3) := by decide +kernel
theorem dX7_reckon_79 : decode cX7_reckon 79 = .ok (.ldc2_w 50, 3) := by decide +kernel
theorem dX7_reckon_82 : decode cX7_reckon 82 = .ok (.goto 6, 3) := by decide +kernel
theorem dX7_reckon_85 : decode cX7_reckon 85 = .ok (.ldc2_w 52, 3) := by decide +kernel
theorem dX7_reckon_88 : decode cX7_reckon 88 = .ok (.lstore 8, 2) := by decide +kernel
theorem dX7_reckon_90 : decode cX7_reckon 90 = .ok (.aload_n 0, 1) := by decide +kernel
theorem dX7_reckon_91 : decode cX7_reckon 91 = .ok (.lload 6, 2) := by decide +kernel
theorem dX7_reckon_93 : decode cX7_reckon 93 = .ok (.lload 8, 2) := by decide +kernel
theorem dX7_reckon_95 : decode cX7_reckon 95 = .ok (.lload 6, 2) := by decide +kernel
theorem dX7_reckon_97 : decode cX7_reckon 97 = .ok (.lsub, 1) := by decide +kernel
theorem dX7_reckon_98 : decode cX7_reckon 98 = .ok (.invokevirtual 54, 3) := by decide +kernel
theorem dX7_reckon_101 : decode cX7_reckon 101 = .ok (.aload_n 0, 1) := by decide +kernel
theorem dX7_reckon_102 : decode cX7_reckon 102 = .ok (.dup, 1) := by decide +kernel
theorem dX7_reckon_103 : decode cX7_reckon 103 = .ok (.getfield 15, 3) := by decide +kernel
theorem dX7_reckon_106 : decode cX7_reckon 106 = .ok (.lload 8, 2) := by decide +kernel
theorem dX7_reckon_108 : decode cX7_reckon 108 = .ok (.lmul, 1) := by decide +kernel
theorem dX7_reckon_109 : decode cX7_reckon 109 = .ok (.putfield 15, 3) := by decide +kernel
theorem dX7_reckon_112 : decode cX7_reckon 112 = .ok (.iinc 3 1, 3) := by decide +kernel
theorem dX7_reckon_115 : decode cX7_reckon 115 = .ok (.goto (-93), 3) := by decide +kernel
theorem dX7_reckon_118 : decode cX7_reckon 118 = .ok (.return_, 1) := by decide +kernel
theorem dX7_addFeud_0 : decode cX7_addFeud 0 = .ok (.bipush 8, 2) := by decide +kernel
theorem dX7_addFeud_2 : decode cX7_addFeud 2 = .ok (.istore 5, 2) := by decide +kernel
theorem dX7_addFeud_4 : decode cX7_addFeud 4 = .ok (.iload 5, 2) := by decide +kernel
theorem dX7_addFeud_6 : decode cX7_addFeud 6 = .ok (.ifCond .le 37, 3) := by decide +kernel
theorem dX7_addFeud_9 : decode cX7_addFeud 9 = .ok (.aload_n 0, 1) := by decide +kernel
theorem dX7_addFeud_10 : decode cX7_addFeud 10 = .ok (.getfield 9, 3) := by decide +kernel
theorem dX7_addFeud_13 : decode cX7_addFeud 13 = .ok (.iload 5, 2) := by decide +kernel
theorem dX7_addFeud_15 : decode cX7_addFeud 15 = .ok (.aload_n 0, 1) := by decide +kernel
theorem dX7_addFeud_16 : decode cX7_addFeud 16 = .ok (.getfield 9, 3) := by decide +kernel
theorem dX7_addFeud_19 : decode cX7_addFeud 19 = .ok (.iload 5, 2) := by decide +kernel
theorem dX7_addFeud_21 : decode cX7_addFeud 21 = .ok (.laload, 1) := by decide +kernel
theorem dX7_addFeud_22 : decode cX7_addFeud 22 = .ok (.lload_n 3, 1) := by decide +kernel
theorem dX7_addFeud_23 : decode cX7_addFeud 23 = .ok (.lmul, 1) := by decide +kernel
theorem dX7_addFeud_24 : decode cX7_addFeud 24 = .ok (.aload_n 0, 1) := by decide +kernel
theorem dX7_addFeud_25 : decode cX7_addFeud 25 = .ok (.getfield 9, 3) := by decide +kernel
theorem dX7_addFeud_28 : decode cX7_addFeud 28 = .ok (.iload 5, 2) := by decide +kernel
theorem dX7_addFeud_30 : decode cX7_addFeud 30 = .ok (.iconst 1, 1) := by decide +kernel
theorem dX7_addFeud_31 : decode cX7_addFeud 31 = .ok (.isub, 1) := by decide +kernel
theorem dX7_addFeud_32 : decode cX7_addFeud 32 = .ok (.laload, 1) := by decide +kernel
theorem dX7_addFeud_33 : decode cX7_addFeud 33 = .ok (.lload_n 1, 1) := by decide +kernel
theorem dX7_addFeud_34 : decode cX7_addFeud 34 = .ok (.lmul, 1) := by decide +kernel
theorem dX7_addFeud_35 : decode cX7_addFeud 35 = .ok (.ladd, 1) := by decide +kernel
theorem dX7_addFeud_36 : decode cX7_addFeud 36 = .ok (.lastore, 1) := by decide +kernel
theorem dX7_addFeud_37 : decode cX7_addFeud 37 = .ok (.iinc 5 (-1), 3) := by decide +kernel
theorem dX7_addFeud_40 : decode cX7_addFeud 40 = .ok (.goto (-36), 3) := by decide +kernel
theorem dX7_addFeud_43 : decode cX7_addFeud 43 = .ok (.aload_n 0, 1) := by decide +kernel
theorem dX7_addFeud_44 : decode cX7_addFeud 44 = .ok (.getfield 9, 3) := by decide +kernel
theorem dX7_addFeud_47 : decode cX7_addFeud 47 = .ok (.iconst 0, 1) := by decide +kernel
theorem dX7_addFeud_48 : decode cX7_addFeud 48 = .ok (.dup2, 1) := by decide +kernel
theorem dX7_addFeud_49 : decode cX7_addFeud 49 = .ok (.laload, 1) := by decide +kernel
theorem dX7_addFeud_50 : decode cX7_addFeud 50 = .ok (.lload_n 3, 1) := by decide +kernel
theorem dX7_addFeud_51 : decode cX7_addFeud 51 = .ok (.lmul, 1) := by decide +kernel
theorem dX7_addFeud_52 : decode cX7_addFeud 52 = .ok (.lastore, 1) := by decide +kernel
theorem dX7_addFeud_53 : decode cX7_addFeud 53 = .ok (.return_, 1) := by decide +kernel
theorem dX7_above_0 : decode cX7_above 0 = .ok (.aload_n 0, 1) := by decide +kernel
theorem dX7_above_1 : decode cX7_above 1 = .ok (.aload_n 0, 1) := by decide +kernel
theorem dX7_above_2 : decode cX7_above 2 = .ok (.iload_n 1, 1) := by decide +kernel
theorem dX7_above_3 : decode cX7_above 3 = .ok (.invokevirtual 58, 3) := by decide +kernel
theorem dX7_above_6 : decode cX7_above 6 = .ok (.aload_n 0, 1) := by decide +kernel
theorem dX7_above_7 : decode cX7_above 7 = .ok (.iload_n 1, 1) := by decide +kernel
theorem dX7_above_8 : decode cX7_above 8 = .ok (.invokevirtual 58, 3) := by decide +kernel
theorem dX7_above_11 : decode cX7_above 11 = .ok (.invokevirtual 62, 3) := by decide +kernel
theorem dX7_above_14 : decode cX7_above 14 = .ok (.lreturn, 1) := by decide +kernel
theorem dX7_below_0 : decode cX7_below 0 = .ok (.aload_n 0, 1) := by decide +kernel
theorem dX7_below_1 : decode cX7_below 1 = .ok (.aload_n 0, 1) := by decide +kernel
theorem dX7_below_2 : decode cX7_below 2 = .ok (.getfield 15, 3) := by decide +kernel
theorem dX7_below_5 : decode cX7_below 5 = .ok (.aload_n 0, 1) := by decide +kernel
theorem dX7_below_6 : decode cX7_below 6 = .ok (.iload_n 1, 1) := by decide +kernel
theorem dX7_below_7 : decode cX7_below 7 = .ok (.invokevirtual 58, 3) := by decide +kernel
theorem dX7_below_10 : decode cX7_below 10 = .ok (.invokevirtual 62, 3) := by decide +kernel
theorem dX7_below_13 : decode cX7_below 13 = .ok (.lreturn, 1) := by decide +kernel
theorem dX7_waysOf_0 : decode cX7_waysOf 0 = .ok (.iload_n 1, 1) := by decide +kernel
theorem dX7_waysOf_1 : decode cX7_waysOf 1 = .ok (.ifCond .lt 21, 3) := by decide +kernel
theorem dX7_waysOf_4 : decode cX7_waysOf 4 = .ok (.iload_n 1, 1) := by decide +kernel
theorem dX7_waysOf_5 : decode cX7_waysOf 5 = .ok (.aload_n 0, 1) := by decide +kernel
theorem dX7_waysOf_6 : decode cX7_waysOf 6 = .ok (.getfield 9, 3) := by decide +kernel
theorem dX7_waysOf_9 : decode cX7_waysOf 9 = .ok (.arraylength, 1) := by decide +kernel
theorem dX7_waysOf_10 : decode cX7_waysOf 10 = .ok (.if_icmp .ge 12, 3) := by decide +kernel
theorem dX7_waysOf_13 : decode cX7_waysOf 13 = .ok (.aload_n 0, 1) := by decide +kernel
theorem dX7_waysOf_14 : decode cX7_waysOf 14 = .ok (.getfield 9, 3) := by decide +kernel
theorem dX7_waysOf_17 : decode cX7_waysOf 17 = .ok (.iload_n 1, 1) := by decide +kernel
theorem dX7_waysOf_18 : decode cX7_waysOf 18 = .ok (.laload, 1) := by decide +kernel
theorem dX7_waysOf_19 : decode cX7_waysOf 19 = .ok (.goto 4, 3) := by decide +kernel
theorem dX7_waysOf_22 : decode cX7_waysOf 22 = .ok (.lconst 0, 1) := by decide +kernel
theorem dX7_waysOf_23 : decode cX7_waysOf 23 = .ok (.lreturn, 1) := by decide +kernel
theorem dX7_inLowest_0 : decode cX7_inLowest 0 = .ok (.lload_n 3, 1) := by decide +kernel
theorem dX7_inLowest_1 : decode cX7_inLowest 1 = .ok (.aload_n 0, 1) := by decide +kernel
theorem dX7_inLowest_2 : decode cX7_inLowest 2 = .ok (.getfield 15, 3) := by decide +kernel
theorem dX7_inLowest_5 : decode cX7_inLowest 5 = .ok (.invokestatic 66, 3) := by decide +kernel
theorem dX7_inLowest_8 : decode cX7_inLowest 8 = .ok (.lstore 5, 2) := by decide +kernel
theorem dX7_inLowest_10 : decode cX7_inLowest 10 = .ok (.lload 5, 2) := by decide +kernel
theorem dX7_inLowest_12 : decode cX7_inLowest 12 = .ok (.lconst 0, 1) := by decide +kernel
theorem dX7_inLowest_13 : decode cX7_inLowest 13 = .ok (.lcmp, 1) := by decide +kernel
theorem dX7_inLowest_14 : decode cX7_inLowest 14 = .ok (.ifCond .ne 7, 3) := by decide +kernel
theorem dX7_inLowest_17 : decode cX7_inLowest 17 = .ok (.lload_n 1, 1) := by decide +kernel
theorem dX7_inLowest_18 : decode cX7_inLowest 18 = .ok (.goto 7, 3) := by decide +kernel
theorem dX7_inLowest_21 : decode cX7_inLowest 21 = .ok (.lload_n 1, 1) := by decide +kernel
theorem dX7_inLowest_22 : decode cX7_inLowest 22 = .ok (.lload 5, 2) := by decide +kernel
theorem dX7_inLowest_24 : decode cX7_inLowest 24 = .ok (.ldiv, 1) := by decide +kernel
theorem dX7_inLowest_25 : decode cX7_inLowest 25 = .ok (.lreturn, 1) := by decide +kernel
theorem dX7_commonDivisor_0 : decode cX7_commonDivisor 0 = .ok (.lload_n 0, 1) := by decide +kernel
theorem dX7_commonDivisor_1 : decode cX7_commonDivisor 1 = .ok (.lstore 4, 2) := by decide +kernel
theorem dX7_commonDivisor_3 : decode cX7_commonDivisor 3 = .ok (.lload_n 2, 1) := by decide +kernel
theorem dX7_commonDivisor_4 : decode cX7_commonDivisor 4 = .ok (.lstore 6, 2) := by decide +kernel
theorem dX7_commonDivisor_6 : decode cX7_commonDivisor 6 = .ok (.iconst 0, 1) := by decide +kernel
theorem dX7_commonDivisor_7 : decode cX7_commonDivisor 7 = .ok (.istore 8, 2) := by decide +kernel
theorem dX7_commonDivisor_9 : decode cX7_commonDivisor 9 = .ok (.iload 8, 2) := by decide +kernel
theorem dX7_commonDivisor_11 : decode cX7_commonDivisor 11 = .ok (.sipush 200, 3) := by decide +kernel
theorem dX7_commonDivisor_14 : decode cX7_commonDivisor 14 = .ok (.if_icmp .ge 31, 3) := by decide +kernel
theorem dX7_commonDivisor_17 : decode cX7_commonDivisor 17 = .ok (.lload 6, 2) := by decide +kernel
theorem dX7_commonDivisor_19 : decode cX7_commonDivisor 19 = .ok (.lconst 0, 1) := by decide +kernel
theorem dX7_commonDivisor_20 : decode cX7_commonDivisor 20 = .ok (.lcmp, 1) := by decide +kernel
theorem dX7_commonDivisor_21 : decode cX7_commonDivisor 21 = .ok (.ifCond .eq 24, 3) := by decide +kernel
theorem dX7_commonDivisor_24 : decode cX7_commonDivisor 24 = .ok (.lload 4, 2) := by decide +kernel
theorem dX7_commonDivisor_26 : decode cX7_commonDivisor 26 = .ok (.lload 6, 2) := by decide +kernel
theorem dX7_commonDivisor_28 : decode cX7_commonDivisor 28 = .ok (.lrem, 1) := by decide +kernel
theorem dX7_commonDivisor_29 : decode cX7_commonDivisor 29 = .ok (.lstore 9, 2) := by decide +kernel
theorem dX7_commonDivisor_31 : decode cX7_commonDivisor 31 = .ok (.lload 6, 2) := by decide +kernel
theorem dX7_commonDivisor_33 : decode cX7_commonDivisor 33 = .ok (.lstore 4, 2) := by decide +kernel
theorem dX7_commonDivisor_35 : decode cX7_commonDivisor 35 = .ok (.lload 9, 2) := by decide +kernel
theorem dX7_commonDivisor_37 : decode cX7_commonDivisor 37 = .ok (.lstore 6, 2) := by decide +kernel
theorem dX7_commonDivisor_39 : decode cX7_commonDivisor 39 = .ok (.iinc 8 1, 3) := by decide +kernel
theorem dX7_commonDivisor_42 : decode cX7_commonDivisor 42 = .ok (.goto (-33), 3) := by decide +kernel
theorem dX7_commonDivisor_45 : decode cX7_commonDivisor 45 = .ok (.lload 4, 2) := by decide +kernel
theorem dX7_commonDivisor_47 : decode cX7_commonDivisor 47 = .ok (.lreturn, 1) := by decide +kernel
theorem dX8_init_0 : decode cX8_init 0 = .ok (.aload_n 0, 1) := by decide +kernel
theorem dX8_init_1 : decode cX8_init 1 = .ok (.invokespecial 3, 3) := by decide +kernel
theorem dX8_init_4 : decode cX8_init 4 = .ok (.aload_n 0, 1) := by decide +kernel
theorem dX8_init_5 : decode cX8_init 5 = .ok (.bipush 40, 2) := by decide +kernel
theorem dX8_init_7 : decode cX8_init 7 = .ok (.newarray .int, 2) := by decide +kernel
theorem dX8_init_9 : decode cX8_init 9 = .ok (.putfield 9, 3) := by decide +kernel
theorem dX8_init_12 : decode cX8_init 12 = .ok (.aload_n 0, 1) := by decide +kernel
theorem dX8_init_13 : decode cX8_init 13 = .ok (.iconst 0, 1) := by decide +kernel
theorem dX8_init_14 : decode cX8_init 14 = .ok (.putfield 15, 3) := by decide +kernel
theorem dX8_init_17 : decode cX8_init 17 = .ok (.aload_n 0, 1) := by decide +kernel
theorem dX8_init_18 : decode cX8_init 18 = .ok (.iconst 0, 1) := by decide +kernel
theorem dX8_init_19 : decode cX8_init 19 = .ok (.putfield 19, 3) := by decide +kernel
theorem dX8_init_22 : decode cX8_init 22 = .ok (.aload_n 0, 1) := by decide +kernel
theorem dX8_init_23 : decode cX8_init 23 = .ok (.iconst 0, 1) := by decide +kernel
theorem dX8_init_24 : decode cX8_init 24 = .ok (.putfield 22, 3) := by decide +kernel
theorem dX8_init_27 : decode cX8_init 27 = .ok (.return_, 1) := by decide +kernel
theorem dX8_write_0 : decode cX8_write 0 = .ok (.aload_n 0, 1) := by decide +kernel
theorem dX8_write_1 : decode cX8_write 1 = .ok (.getfield 15, 3) := by decide +kernel
theorem dX8_write_4 : decode cX8_write 4 = .ok (.aload_n 0, 1) := by decide +kernel
theorem dX8_write_5 : decode cX8_write 5 = .ok (.getfield 9, 3) := by decide +kernel
theorem dX8_write_8 : decode cX8_write 8 = .ok (.arraylength, 1) := by decide +kernel
theorem dX8_write_9 : decode cX8_write 9 = .ok (.if_icmp .lt 5, 3) := by decide +kernel
theorem dX8_write_12 : decode cX8_write 12 = .ok (.iconst 0, 1) := by decide +kernel
theorem dX8_write_13 : decode cX8_write 13 = .ok (.ireturn, 1) := by decide +kernel
theorem dX8_write_14 : decode cX8_write 14 = .ok (.aload_n 0, 1) := by decide +kernel
theorem dX8_write_15 : decode cX8_write 15 = .ok (.getfield 9, 3) := by decide +kernel
theorem dX8_write_18 : decode cX8_write 18 = .ok (.aload_n 0, 1) := by decide +kernel
theorem dX8_write_19 : decode cX8_write 19 = .ok (.getfield 15, 3) := by decide +kernel
theorem dX8_write_22 : decode cX8_write 22 = .ok (.iload_n 1, 1) := by decide +kernel
theorem dX8_write_23 : decode cX8_write 23 = .ok (.iastore, 1) := by decide +kernel
theorem dX8_write_24 : decode cX8_write 24 = .ok (.aload_n 0, 1) := by decide +kernel
theorem dX8_write_25 : decode cX8_write 25 = .ok (.dup, 1) := by decide +kernel
theorem dX8_write_26 : decode cX8_write 26 = .ok (.getfield 15, 3) := by decide +kernel
theorem dX8_write_29 : decode cX8_write 29 = .ok (.iconst 1, 1) := by decide +kernel
theorem dX8_write_30 : decode cX8_write 30 = .ok (.iadd, 1) := by decide +kernel
theorem dX8_write_31 : decode cX8_write 31 = .ok (.putfield 15, 3) := by decide +kernel
theorem dX8_write_34 : decode cX8_write 34 = .ok (.iconst 1, 1) := by decide +kernel
theorem dX8_write_35 : decode cX8_write 35 = .ok (.ireturn, 1) := by decide +kernel
theorem dX8_wipe_0 : decode cX8_wipe 0 = .ok (.aload_n 0, 1) := by decide +kernel
theorem dX8_wipe_1 : decode cX8_wipe 1 = .ok (.getfield 15, 3) := by decide +kernel
theorem dX8_wipe_4 : decode cX8_wipe 4 = .ok (.istore_n 1, 1) := by decide +kernel
theorem dX8_wipe_5 : decode cX8_wipe 5 = .ok (.aload_n 0, 1) := by decide +kernel
theorem dX8_wipe_6 : decode cX8_wipe 6 = .ok (.iconst 0, 1) := by decide +kernel
theorem dX8_wipe_7 : decode cX8_wipe 7 = .ok (.putfield 15, 3) := by decide +kernel
theorem dX8_wipe_10 : decode cX8_wipe 10 = .ok (.iload_n 1, 1) := by decide +kernel
theorem dX8_wipe_11 : decode cX8_wipe 11 = .ok (.ireturn, 1) := by decide +kernel
theorem dX8_codeAt_0 : decode cX8_codeAt 0 = .ok (.iload_n 1, 1) := by decide +kernel
theorem dX8_codeAt_1 : decode cX8_codeAt 1 = .ok (.ifCond .lt 20, 3) := by decide +kernel
theorem dX8_codeAt_4 : decode cX8_codeAt 4 = .ok (.iload_n 1, 1) := by decide +kernel
theorem dX8_codeAt_5 : decode cX8_codeAt 5 = .ok (.aload_n 0, 1) := by decide +kernel
theorem dX8_codeAt_6 : decode cX8_codeAt 6 = .ok (.getfield 15, 3) := by decide +kernel
theorem dX8_codeAt_9 : decode cX8_codeAt 9 = .ok (.if_icmp .ge 12, 3) := by decide +kernel
theorem dX8_codeAt_12 : decode cX8_codeAt 12 = .ok (.aload_n 0, 1) := by decide +kernel
theorem dX8_codeAt_13 : decode cX8_codeAt 13 = .ok (.getfield 9, 3) := by decide +kernel
theorem dX8_codeAt_16 : decode cX8_codeAt 16 = .ok (.iload_n 1, 1) := by decide +kernel
theorem dX8_codeAt_17 : decode cX8_codeAt 17 = .ok (.iaload, 1) := by decide +kernel
theorem dX8_codeAt_18 : decode cX8_codeAt 18 = .ok (.goto 4, 3) := by decide +kernel
theorem dX8_codeAt_21 : decode cX8_codeAt 21 = .ok (.iconst 0, 1) := by decide +kernel
theorem dX8_codeAt_22 : decode cX8_codeAt 22 = .ok (.ireturn, 1) := by decide +kernel
theorem dX8_isList_0 : decode cX8_isList 0 = .ok (.aload_n 0, 1) := by decide +kernel
theorem dX8_isList_1 : decode cX8_isList 1 = .ok (.invokevirtual 25, 3) := by decide +kernel
theorem dX8_isList_4 : decode cX8_isList 4 = .ok (.aload_n 0, 1) := by decide +kernel
theorem dX8_isList_5 : decode cX8_isList 5 = .ok (.getfield 19, 3) := by decide +kernel
theorem dX8_isList_8 : decode cX8_isList 8 = .ok (.aload_n 0, 1) := by decide +kernel
theorem dX8_isList_9 : decode cX8_isList 9 = .ok (.getfield 15, 3) := by decide +kernel
theorem dX8_isList_12 : decode cX8_isList 12 = .ok (.if_icmp .ne 15, 3) := by decide +kernel
theorem dX8_isList_15 : decode cX8_isList 15 = .ok (.aload_n 0, 1) := by decide +kernel
theorem dX8_isList_16 : decode cX8_isList 16 = .ok (.getfield 22, 3) := by decide +kernel
theorem dX8_isList_19 : decode cX8_isList 19 = .ok (.iconst 4, 1) := by decide +kernel
theorem dX8_isList_20 : decode cX8_isList 20 = .ok (.if_icmp .ne 7, 3) := by decide +kernel
theorem dX8_isList_23 : decode cX8_isList 23 = .ok (.iconst 1, 1) := by decide +kernel
theorem dX8_isList_24 : decode cX8_isList 24 = .ok (.goto 4, 3) := by decide +kernel
theorem dX8_isList_27 : decode cX8_isList 27 = .ok (.iconst 0, 1) := by decide +kernel
theorem dX8_isList_28 : decode cX8_isList 28 = .ok (.ireturn, 1) := by decide +kernel
theorem dX8_scan_0 : decode cX8_scan 0 = .ok (.iconst 0, 1) := by decide +kernel
theorem dX8_scan_1 : decode cX8_scan 1 = .ok (.istore_n 1, 1) := by decide +kernel
theorem dX8_scan_2 : decode cX8_scan 2 = .ok (.iconst 0, 1) := by decide +kernel
theorem dX8_scan_3 : decode cX8_scan 3 = .ok (.istore_n 2, 1) := by decide +kernel
theorem dX8_scan_4 : decode cX8_scan 4 = .ok (.iconst 0, 1) := by decide +kernel
theorem dX8_scan_5 : decode cX8_scan 5 = .ok (.istore_n 3, 1) := by decide +kernel
theorem dX8_scan_6 : decode cX8_scan 6 = .ok (.iload_n 3, 1) := by decide +kernel
theorem dX8_scan_7 : decode cX8_scan 7 = .ok (.aload_n 0, 1) := by decide +kernel
theorem dX8_scan_8 : decode cX8_scan 8 = .ok (.getfield 15, 3) := by decide +kernel
theorem dX8_scan_11 : decode cX8_scan 11 = .ok (.if_icmp .ge 39, 3) := by decide +kernel
theorem dX8_scan_14 : decode cX8_scan 14 = .ok (.aload_n 0, 1) := by decide +kernel
theorem dX8_scan_15 : decode cX8_scan 15 = .ok (.iload_n 1, 1) := by decide +kernel
theorem dX8_scan_16 : decode cX8_scan 16 = .ok (.iload_n 3, 1) := by decide +kernel
theorem dX8_scan_17 : decode cX8_scan 17 = .ok (.iload_n 2, 1) := by decide +kernel
theorem dX8_scan_18 : decode cX8_scan 18 = .ok (.invokevirtual 28, 3) := by decide +kernel
theorem dX8_scan_21 : decode cX8_scan 21 = .ok (.istore 4, 2) := by decide +kernel
theorem dX8_scan_23 : decode cX8_scan 23 = .ok (.iload 4, 2) := by decide +kernel
theorem dX8_scan_25 : decode cX8_scan 25 = .ok (.iconst (-1), 1) := by decide +kernel
theorem dX8_scan_26 : decode cX8_scan 26 = .ok (.if_icmp .ne 6, 3) := by decide +kernel
theorem dX8_scan_29 : decode cX8_scan 29 = .ok (.goto 21, 3) := by decide +kernel
theorem dX8_scan_32 : decode cX8_scan 32 = .ok (.iload 4, 2) := by decide +kernel
theorem dX8_scan_34 : decode cX8_scan 34 = .ok (.iconst 4, 1) := by decide +kernel
theorem dX8_scan_35 : decode cX8_scan 35 = .ok (.if_icmp .ne 6, 3) := by decide +kernel
theorem dX8_scan_38 : decode cX8_scan 38 = .ok (.iinc 2 1, 3) := by decide +kernel
theorem dX8_scan_41 : decode cX8_scan 41 = .ok (.iload 4, 2) := by decide +kernel
theorem dX8_scan_43 : decode cX8_scan 43 = .ok (.istore_n 1, 1) := by decide +kernel
theorem dX8_scan_44 : decode cX8_scan 44 = .ok (.iinc 3 1, 3) := by decide +kernel
theorem dX8_scan_47 : decode cX8_scan 47 = .ok (.goto (-41), 3) := by decide +kernel
theorem dX8_scan_50 : decode cX8_scan 50 = .ok (.aload_n 0, 1) := by decide +kernel
theorem dX8_scan_51 : decode cX8_scan 51 = .ok (.iload_n 3, 1) := by decide +kernel
theorem dX8_scan_52 : decode cX8_scan 52 = .ok (.putfield 19, 3) := by decide +kernel
theorem dX8_scan_55 : decode cX8_scan 55 = .ok (.aload_n 0, 1) := by decide +kernel
theorem dX8_scan_56 : decode cX8_scan 56 = .ok (.iload_n 1, 1) := by decide +kernel
theorem dX8_scan_57 : decode cX8_scan 57 = .ok (.putfield 22, 3) := by decide +kernel
theorem dX8_scan_60 : decode cX8_scan 60 = .ok (.return_, 1) := by decide +kernel
theorem dX8_stageBehind_0 : decode cX8_stageBehind 0 = .ok (.aload_n 0, 1) := by decide +kernel
theorem dX8_stageBehind_1 : decode cX8_stageBehind 1 = .ok (.iload_n 2, 1) := by decide +kernel
theorem dX8_stageBehind_2 : decode cX8_stageBehind 2 = .ok (.invokevirtual 32, 3) := by decide +kernel
theorem dX8_stageBehind_5 : decode cX8_stageBehind 5 = .ok (.istore 4, 2) := by decide +kernel
theorem dX8_stageBehind_7 : decode cX8_stageBehind 7 = .ok (.iload_n 1, 1) := by decide +kernel
theorem dX8_stageBehind_8 : decode cX8_stageBehind 8 = .ok (.tableswitch 116 0 3 #[32, 56, 70, 96], 32) := by decide +kernel
theorem dX8_stageBehind_40 : decode cX8_stageBehind 40 = .ok (.iload 4, 2) := by decide +kernel
theorem dX8_stageBehind_42 : decode cX8_stageBehind 42 = .ok (.invokestatic 36, 3) := by decide +kernel
theorem dX8_stageBehind_45 : decode cX8_stageBehind 45 = .ok (.ifCond .eq 5, 3) := by decide +kernel
theorem dX8_stageBehind_48 : decode cX8_stageBehind 48 = .ok (.iconst 1, 1) := by decide +kernel
theorem dX8_stageBehind_49 : decode cX8_stageBehind 49 = .ok (.ireturn, 1) := by decide +kernel
theorem dX8_stageBehind_50 : decode cX8_stageBehind 50 = .ok (.iload 4, 2) := by decide +kernel
theorem dX8_stageBehind_52 : decode cX8_stageBehind 52 = .ok (.invokestatic 41, 3) := by decide +kernel
theorem dX8_stageBehind_55 : decode cX8_stageBehind 55 = .ok (.ifCond .eq 7, 3) := by decide +kernel
theorem dX8_stageBehind_58 : decode cX8_stageBehind 58 = .ok (.iconst 2, 1) := by decide +kernel
theorem dX8_stageBehind_59 : decode cX8_stageBehind 59 = .ok (.goto 4, 3) := by decide +kernel
theorem dX8_stageBehind_62 : decode cX8_stageBehind 62 = .ok (.iconst (-1), 1) := by decide +kernel
theorem dX8_stageBehind_63 : decode cX8_stageBehind 63 = .ok (.ireturn, 1) := by decide +kernel
theorem dX8_stageBehind_64 : decode cX8_stageBehind 64 = .ok (.iload 4, 2) := by decide +kernel
theorem dX8_stageBehind_66 : decode cX8_stageBehind 66 = .ok (.invokestatic 41, 3) := by decide +kernel
theorem dX8_stageBehind_69 : decode cX8_stageBehind 69 = .ok (.ifCond .eq 7, 3) := by decide +kernel
theorem dX8_stageBehind_72 : decode cX8_stageBehind 72 = .ok (.iconst 2, 1) := by decide +kernel
theorem dX8_stageBehind_73 : decode cX8_stageBehind 73 = .ok (.goto 4, 3) := by decide +kernel
theorem dX8_stageBehind_76 : decode cX8_stageBehind 76 = .ok (.iconst (-1), 1) := by decide +kernel
theorem dX8_stageBehind_77 : decode cX8_stageBehind 77 = .ok (.ireturn, 1) := by decide +kernel
theorem dX8_stageBehind_78 : decode cX8_stageBehind 78 = .ok (.iload 4, 2) := by decide +kernel
theorem dX8_stageBehind_80 : decode cX8_stageBehind 80 = .ok (.invokestatic 41, 3) := by decide +kernel
theorem dX8_stageBehind_83 : decode cX8_stageBehind 83 = .ok (.ifCond .eq 19, 3) := by decide +kernel
theorem dX8_stageBehind_86 : decode cX8_stageBehind 86 = .ok (.iload 4, 2) := by decide +kernel
theorem dX8_stageBehind_88 : decode cX8_stageBehind 88 = .ok (.aload_n 0, 1) := by decide +kernel
end
section
theorem dX8_stageBehind_89 : decode cX8_stageBehind 89 = .ok (.iload_n 2, 1) := by decide +kernel
theorem dX8_stageBehind_90 : decode cX8_stageBehind 90 = .ok (.iconst 1, 1) := by decide +kernel
theorem dX8_stageBehind_91 : decode cX8_stageBehind 91 = .ok (.isub, 1) := by decide +kernel
theorem dX8_stageBehind_92 : decode cX8_stageBehind 92 = .ok (.invokevirtual 32, 3) := by decide +kernel
theorem dX8_stageBehind_95 : decode cX8_stageBehind 95 = .ok (.if_icmp .eq 7, 3) := by decide +kernel
theorem dX8_stageBehind_98 : decode cX8_stageBehind 98 = .ok (.iconst 3, 1) := by decide +kernel
theorem dX8_stageBehind_99 : decode cX8_stageBehind 99 = .ok (.goto 4, 3) := by decide +kernel
theorem dX8_stageBehind_102 : decode cX8_stageBehind 102 = .ok (.iconst (-1), 1) := by decide +kernel
theorem dX8_stageBehind_103 : decode cX8_stageBehind 103 = .ok (.ireturn, 1) := by decide +kernel
theorem dX8_stageBehind_104 : decode cX8_stageBehind 104 = .ok (.iload 4, 2) := by decide +kernel
theorem dX8_stageBehind_106 : decode cX8_stageBehind 106 = .ok (.bipush 49, 2) := by decide +kernel
theorem dX8_stageBehind_108 : decode cX8_stageBehind 108 = .ok (.if_icmp .lt 14, 3) := by decide +kernel
theorem dX8_stageBehind_111 : decode cX8_stageBehind 111 = .ok (.iload 4, 2) := by decide +kernel
theorem dX8_stageBehind_113 : decode cX8_stageBehind 113 = .ok (.bipush 57, 2) := by decide +kernel
theorem dX8_stageBehind_115 : decode cX8_stageBehind 115 = .ok (.if_icmp .gt 7, 3) := by decide +kernel
theorem dX8_stageBehind_118 : decode cX8_stageBehind 118 = .ok (.iconst 4, 1) := by decide +kernel
theorem dX8_stageBehind_119 : decode cX8_stageBehind 119 = .ok (.goto 4, 3) := by decide +kernel
theorem dX8_stageBehind_122 : decode cX8_stageBehind 122 = .ok (.iconst (-1), 1) := by decide +kernel
theorem dX8_stageBehind_123 : decode cX8_stageBehind 123 = .ok (.ireturn, 1) := by decide +kernel
theorem dX8_stageBehind_124 : decode cX8_stageBehind 124 = .ok (.iload 4, 2) := by decide +kernel
theorem dX8_stageBehind_126 : decode cX8_stageBehind 126 = .ok (.bipush 44, 2) := by decide +kernel
theorem dX8_stageBehind_128 : decode cX8_stageBehind 128 = .ok (.if_icmp .ne 13, 3) := by decide +kernel
theorem dX8_stageBehind_131 : decode cX8_stageBehind 131 = .ok (.iload_n 3, 1) := by decide +kernel
theorem dX8_stageBehind_132 : decode cX8_stageBehind 132 = .ok (.bipush 8, 2) := by decide +kernel
theorem dX8_stageBehind_134 : decode cX8_stageBehind 134 = .ok (.if_icmp .ge 7, 3) := by decide +kernel
theorem dX8_stageBehind_137 : decode cX8_stageBehind 137 = .ok (.iconst 0, 1) := by decide +kernel
theorem dX8_stageBehind_138 : decode cX8_stageBehind 138 = .ok (.goto 4, 3) := by decide +kernel
theorem dX8_stageBehind_141 : decode cX8_stageBehind 141 = .ok (.iconst (-1), 1) := by decide +kernel
theorem dX8_stageBehind_142 : decode cX8_stageBehind 142 = .ok (.ireturn, 1) := by decide +kernel
theorem dX8_namesPerson_0 : decode cX8_namesPerson 0 = .ok (.iload_n 0, 1) := by decide +kernel
theorem dX8_namesPerson_1 : decode cX8_namesPerson 1 = .ok (.bipush 48, 2) := by decide +kernel
theorem dX8_namesPerson_3 : decode cX8_namesPerson 3 = .ok (.if_icmp .lt 13, 3) := by decide +kernel
theorem dX8_namesPerson_6 : decode cX8_namesPerson 6 = .ok (.iload_n 0, 1) := by decide +kernel
theorem dX8_namesPerson_7 : decode cX8_namesPerson 7 = .ok (.bipush 53, 2) := by decide +kernel
theorem dX8_namesPerson_9 : decode cX8_namesPerson 9 = .ok (.if_icmp .gt 7, 3) := by decide +kernel
theorem dX8_namesPerson_12 : decode cX8_namesPerson 12 = .ok (.iconst 1, 1) := by decide +kernel
theorem dX8_namesPerson_13 : decode cX8_namesPerson 13 = .ok (.goto 4, 3) := by decide +kernel
theorem dX8_namesPerson_16 : decode cX8_namesPerson 16 = .ok (.iconst 0, 1) := by decide +kernel
theorem dX8_namesPerson_17 : decode cX8_namesPerson 17 = .ok (.ireturn, 1) := by decide +kernel
theorem dX9_init_0 : decode cX9_init 0 = .ok (.aload_n 0, 1) := by decide +kernel
theorem dX9_init_1 : decode cX9_init 1 = .ok (.iload_n 1, 1) := by decide +kernel
theorem dX9_init_2 : decode cX9_init 2 = .ok (.invokespecial 3, 3) := by decide +kernel
theorem dX9_init_5 : decode cX9_init 5 = .ok (.return_, 1) := by decide +kernel
theorem dX9_kind_0 : decode cX9_kind 0 = .ok (.iconst 4, 1) := by decide +kernel
theorem dX9_kind_1 : decode cX9_kind 1 = .ok (.ireturn, 1) := by decide +kernel
theorem dX9_fullPrice_0 : decode cX9_fullPrice 0 = .ok (.aload_n 0, 1) := by decide +kernel
theorem dX9_fullPrice_1 : decode cX9_fullPrice 1 = .ok (.invokespecial 9, 3) := by decide +kernel
theorem dX9_fullPrice_4 : decode cX9_fullPrice 4 = .ok (.iconst 3, 1) := by decide +kernel
theorem dX9_fullPrice_5 : decode cX9_fullPrice 5 = .ok (.iadd, 1) := by decide +kernel
theorem dX9_fullPrice_6 : decode cX9_fullPrice 6 = .ok (.ireturn, 1) := by decide +kernel
theorem dX10_init_0 : decode cX10_init 0 = .ok (.aload_n 0, 1) := by decide +kernel
theorem dX10_init_1 : decode cX10_init 1 = .ok (.invokespecial 3, 3) := by decide +kernel
theorem dX10_init_4 : decode cX10_init 4 = .ok (.aload_n 0, 1) := by decide +kernel
theorem dX10_init_5 : decode cX10_init 5 = .ok (.bipush 8, 2) := by decide +kernel
theorem dX10_init_7 : decode cX10_init 7 = .ok (.anewarray 9, 3) := by decide +kernel
theorem dX10_init_10 : decode cX10_init 10 = .ok (.putfield 11, 3) := by decide +kernel
theorem dX10_init_13 : decode cX10_init 13 = .ok (.aload_n 0, 1) := by decide +kernel
theorem dX10_init_14 : decode cX10_init 14 = .ok (.bipush 16, 2) := by decide +kernel
theorem dX10_init_16 : decode cX10_init 16 = .ok (.newarray .int, 2) := by decide +kernel
theorem dX10_init_18 : decode cX10_init 18 = .ok (.putfield 17, 3) := by decide +kernel
theorem dX10_init_21 : decode cX10_init 21 = .ok (.aload_n 0, 1) := by decide +kernel
theorem dX10_init_22 : decode cX10_init 22 = .ok (.iconst 0, 1) := by decide +kernel
theorem dX10_init_23 : decode cX10_init 23 = .ok (.putfield 21, 3) := by decide +kernel
theorem dX10_init_26 : decode cX10_init 26 = .ok (.iconst 0, 1) := by decide +kernel
theorem dX10_init_27 : decode cX10_init 27 = .ok (.istore_n 1, 1) := by decide +kernel
theorem dX10_init_28 : decode cX10_init 28 = .ok (.iload_n 1, 1) := by decide +kernel
theorem dX10_init_29 : decode cX10_init 29 = .ok (.bipush 8, 2) := by decide +kernel
theorem dX10_init_31 : decode cX10_init 31 = .ok (.if_icmp .ge 23, 3) := by decide +kernel
theorem dX10_init_34 : decode cX10_init 34 = .ok (.aload_n 0, 1) := by decide +kernel
theorem dX10_init_35 : decode cX10_init 35 = .ok (.getfield 11, 3) := by decide +kernel
theorem dX10_init_38 : decode cX10_init 38 = .ok (.iload_n 1, 1) := by decide +kernel
theorem dX10_init_39 : decode cX10_init 39 = .ok (.new 9, 3) := by decide +kernel
theorem dX10_init_42 : decode cX10_init 42 = .ok (.dup, 1) := by decide +kernel
theorem dX10_init_43 : decode cX10_init 43 = .ok (.iconst 1, 1) := by decide +kernel
theorem dX10_init_44 : decode cX10_init 44 = .ok (.invokespecial 25, 3) := by decide +kernel
theorem dX10_init_47 : decode cX10_init 47 = .ok (.aastore, 1) := by decide +kernel
theorem dX10_init_48 : decode cX10_init 48 = .ok (.iinc 1 1, 3) := by decide +kernel
theorem dX10_init_51 : decode cX10_init 51 = .ok (.goto (-23), 3) := by decide +kernel
theorem dX10_init_54 : decode cX10_init 54 = .ok (.return_, 1) := by decide +kernel
theorem dX10_readFrom_0 : decode cX10_readFrom 0 = .ok (.iconst 0, 1) := by decide +kernel
theorem dX10_readFrom_1 : decode cX10_readFrom 1 = .ok (.istore_n 2, 1) := by decide +kernel
theorem dX10_readFrom_2 : decode cX10_readFrom 2 = .ok (.aload_n 0, 1) := by decide +kernel
theorem dX10_readFrom_3 : decode cX10_readFrom 3 = .ok (.iconst 0, 1) := by decide +kernel
theorem dX10_readFrom_4 : decode cX10_readFrom 4 = .ok (.putfield 21, 3) := by decide +kernel
theorem dX10_readFrom_7 : decode cX10_readFrom 7 = .ok (.aload_n 0, 1) := by decide +kernel
theorem dX10_readFrom_8 : decode cX10_readFrom 8 = .ok (.getfield 21, 3) := by decide +kernel
theorem dX10_readFrom_11 : decode cX10_readFrom 11 = .ok (.bipush 8, 2) := by decide +kernel
theorem dX10_readFrom_13 : decode cX10_readFrom 13 = .ok (.if_icmp .ge 108, 3) := by decide +kernel
theorem dX10_readFrom_16 : decode cX10_readFrom 16 = .ok (.iload_n 2, 1) := by decide +kernel
theorem dX10_readFrom_17 : decode cX10_readFrom 17 = .ok (.aload_n 1, 1) := by decide +kernel
theorem dX10_readFrom_18 : decode cX10_readFrom 18 = .ok (.getfield 28, 3) := by decide +kernel
theorem dX10_readFrom_21 : decode cX10_readFrom 21 = .ok (.if_icmp .ge 100, 3) := by decide +kernel
theorem dX10_readFrom_24 : decode cX10_readFrom 24 = .ok (.aload_n 1, 1) := by decide +kernel
theorem dX10_readFrom_25 : decode cX10_readFrom 25 = .ok (.iload_n 2, 1) := by decide +kernel
theorem dX10_readFrom_26 : decode cX10_readFrom 26 = .ok (.invokevirtual 33, 3) := by decide +kernel
theorem dX10_readFrom_29 : decode cX10_readFrom 29 = .ok (.invokestatic 37, 3) := by decide +kernel
theorem dX10_readFrom_32 : decode cX10_readFrom 32 = .ok (.istore_n 3, 1) := by decide +kernel
theorem dX10_readFrom_33 : decode cX10_readFrom 33 = .ok (.iload_n 3, 1) := by decide +kernel
theorem dX10_readFrom_34 : decode cX10_readFrom 34 = .ok (.ifCond .eq 6, 3) := by decide +kernel
theorem dX10_readFrom_37 : decode cX10_readFrom 37 = .ok (.iinc 2 1, 3) := by decide +kernel
theorem dX10_readFrom_40 : decode cX10_readFrom 40 = .ok (.aload_n 0, 1) := by decide +kernel
theorem dX10_readFrom_41 : decode cX10_readFrom 41 = .ok (.getfield 17, 3) := by decide +kernel
theorem dX10_readFrom_44 : decode cX10_readFrom 44 = .ok (.iconst 2, 1) := by decide +kernel
theorem dX10_readFrom_45 : decode cX10_readFrom 45 = .ok (.aload_n 0, 1) := by decide +kernel
theorem dX10_readFrom_46 : decode cX10_readFrom 46 = .ok (.getfield 21, 3) := by decide +kernel
theorem dX10_readFrom_49 : decode cX10_readFrom 49 = .ok (.imul, 1) := by decide +kernel
theorem dX10_readFrom_50 : decode cX10_readFrom 50 = .ok (.aload_n 1, 1) := by decide +kernel
theorem dX10_readFrom_51 : decode cX10_readFrom 51 = .ok (.iload_n 2, 1) := by decide +kernel
theorem dX10_readFrom_52 : decode cX10_readFrom 52 = .ok (.invokevirtual 33, 3) := by decide +kernel
theorem dX10_readFrom_55 : decode cX10_readFrom 55 = .ok (.bipush 48, 2) := by decide +kernel
theorem dX10_readFrom_57 : decode cX10_readFrom 57 = .ok (.isub, 1) := by decide +kernel
theorem dX10_readFrom_58 : decode cX10_readFrom 58 = .ok (.iastore, 1) := by decide +kernel
theorem dX10_readFrom_59 : decode cX10_readFrom 59 = .ok (.aload_n 0, 1) := by decide +kernel
theorem dX10_readFrom_60 : decode cX10_readFrom 60 = .ok (.getfield 17, 3) := by decide +kernel
theorem dX10_readFrom_63 : decode cX10_readFrom 63 = .ok (.iconst 2, 1) := by decide +kernel
theorem dX10_readFrom_64 : decode cX10_readFrom 64 = .ok (.aload_n 0, 1) := by decide +kernel
theorem dX10_readFrom_65 : decode cX10_readFrom 65 = .ok (.getfield 21, 3) := by decide +kernel
theorem dX10_readFrom_68 : decode cX10_readFrom 68 = .ok (.imul, 1) := by decide +kernel
theorem dX10_readFrom_69 : decode cX10_readFrom 69 = .ok (.iconst 1, 1) := by decide +kernel
theorem dX10_readFrom_70 : decode cX10_readFrom 70 = .ok (.iadd, 1) := by decide +kernel
theorem dX10_readFrom_71 : decode cX10_readFrom 71 = .ok (.aload_n 1, 1) := by decide +kernel
theorem dX10_readFrom_72 : decode cX10_readFrom 72 = .ok (.iload_n 2, 1) := by decide +kernel
theorem dX10_readFrom_73 : decode cX10_readFrom 73 = .ok (.iconst 1, 1) := by decide +kernel
theorem dX10_readFrom_74 : decode cX10_readFrom 74 = .ok (.iadd, 1) := by decide +kernel
theorem dX10_readFrom_75 : decode cX10_readFrom 75 = .ok (.invokevirtual 33, 3) := by decide +kernel
theorem dX10_readFrom_78 : decode cX10_readFrom 78 = .ok (.bipush 48, 2) := by decide +kernel
theorem dX10_readFrom_80 : decode cX10_readFrom 80 = .ok (.isub, 1) := by decide +kernel
theorem dX10_readFrom_81 : decode cX10_readFrom 81 = .ok (.iastore, 1) := by decide +kernel
theorem dX10_readFrom_82 : decode cX10_readFrom 82 = .ok (.aload_n 0, 1) := by decide +kernel
theorem dX10_readFrom_83 : decode cX10_readFrom 83 = .ok (.getfield 11, 3) := by decide +kernel
theorem dX10_readFrom_86 : decode cX10_readFrom 86 = .ok (.aload_n 0, 1) := by decide +kernel
theorem dX10_readFrom_87 : decode cX10_readFrom 87 = .ok (.getfield 21, 3) := by decide +kernel
theorem dX10_readFrom_90 : decode cX10_readFrom 90 = .ok (.iload_n 3, 1) := by decide +kernel
theorem dX10_readFrom_91 : decode cX10_readFrom 91 = .ok (.aload_n 1, 1) := by decide +kernel
theorem dX10_readFrom_92 : decode cX10_readFrom 92 = .ok (.iload_n 2, 1) := by decide +kernel
theorem dX10_readFrom_93 : decode cX10_readFrom 93 = .ok (.iconst 2, 1) := by decide +kernel
theorem dX10_readFrom_94 : decode cX10_readFrom 94 = .ok (.iadd, 1) := by decide +kernel
theorem dX10_readFrom_95 : decode cX10_readFrom 95 = .ok (.invokevirtual 33, 3) := by decide +kernel
theorem dX10_readFrom_98 : decode cX10_readFrom 98 = .ok (.bipush 48, 2) := by decide +kernel
theorem dX10_readFrom_100 : decode cX10_readFrom 100 = .ok (.isub, 1) := by decide +kernel
theorem dX10_readFrom_101 : decode cX10_readFrom 101 = .ok (.invokestatic 40, 3) := by decide +kernel
theorem dX10_readFrom_104 : decode cX10_readFrom 104 = .ok (.aastore, 1) := by decide +kernel
theorem dX10_readFrom_105 : decode cX10_readFrom 105 = .ok (.aload_n 0, 1) := by decide +kernel
theorem dX10_readFrom_106 : decode cX10_readFrom 106 = .ok (.dup, 1) := by decide +kernel
theorem dX10_readFrom_107 : decode cX10_readFrom 107 = .ok (.getfield 21, 3) := by decide +kernel
theorem dX10_readFrom_110 : decode cX10_readFrom 110 = .ok (.iconst 1, 1) := by decide +kernel
theorem dX10_readFrom_111 : decode cX10_readFrom 111 = .ok (.iadd, 1) := by decide +kernel
theorem dX10_readFrom_112 : decode cX10_readFrom 112 = .ok (.putfield 21, 3) := by decide +kernel
theorem dX10_readFrom_115 : decode cX10_readFrom 115 = .ok (.iinc 2 4, 3) := by decide +kernel
theorem dX10_readFrom_118 : decode cX10_readFrom 118 = .ok (.goto (-111), 3) := by decide +kernel
theorem dX10_readFrom_121 : decode cX10_readFrom 121 = .ok (.return_, 1) := by decide +kernel
theorem dX10_kindOfLetter_0 : decode cX10_kindOfLetter 0 = .ok (.iload_n 0, 1) := by decide +kernel
theorem dX10_kindOfLetter_1 : decode cX10_kindOfLetter 1 = .ok (.lookupswitch 51 #[(98, 43), (103, 47), (106, 45), (112, 49)], 43) := by decide +kernel
theorem dX10_kindOfLetter_44 : decode cX10_kindOfLetter 44 = .ok (.iconst 1, 1) := by decide +kernel
theorem dX10_kindOfLetter_45 : decode cX10_kindOfLetter 45 = .ok (.ireturn, 1) := by decide +kernel
theorem dX10_kindOfLetter_46 : decode cX10_kindOfLetter 46 = .ok (.iconst 2, 1) := by decide +kernel
theorem dX10_kindOfLetter_47 : decode cX10_kindOfLetter 47 = .ok (.ireturn, 1) := by decide +kernel
theorem dX10_kindOfLetter_48 : decode cX10_kindOfLetter 48 = .ok (.iconst 3, 1) := by decide +kernel
theorem dX10_kindOfLetter_49 : decode cX10_kindOfLetter 49 = .ok (.ireturn, 1) := by decide +kernel
theorem dX10_kindOfLetter_50 : decode cX10_kindOfLetter 50 = .ok (.iconst 4, 1) := by decide +kernel
theorem dX10_kindOfLetter_51 : decode cX10_kindOfLetter 51 = .ok (.ireturn, 1) := by decide +kernel
theorem dX10_kindOfLetter_52 : decode cX10_kindOfLetter 52 = .ok (.iconst 0, 1) := by decide +kernel
theorem dX10_kindOfLetter_53 : decode cX10_kindOfLetter 53 = .ok (.ireturn, 1) := by decide +kernel
theorem dX10_feudOf_0 : decode cX10_feudOf 0 = .ok (.iload_n 0, 1) := by decide +kernel
theorem dX10_feudOf_1 : decode cX10_feudOf 1 = .ok (.tableswitch 67 1 4 #[31, 40, 49, 58], 31) := by decide +kernel
theorem dX10_feudOf_32 : decode cX10_feudOf 32 = .ok (.new 44, 3) := by decide +kernel
theorem dX10_feudOf_35 : decode cX10_feudOf 35 = .ok (.dup, 1) := by decide +kernel
theorem dX10_feudOf_36 : decode cX10_feudOf 36 = .ok (.iload_n 1, 1) := by decide +kernel
theorem dX10_feudOf_37 : decode cX10_feudOf 37 = .ok (.invokespecial 46, 3) := by decide +kernel
theorem dX10_feudOf_40 : decode cX10_feudOf 40 = .ok (.areturn, 1) := by decide +kernel
theorem dX10_feudOf_41 : decode cX10_feudOf 41 = .ok (.new 47, 3) := by decide +kernel
theorem dX10_feudOf_44 : decode cX10_feudOf 44 = .ok (.dup, 1) := by decide +kernel
theorem dX10_feudOf_45 : decode cX10_feudOf 45 = .ok (.iload_n 1, 1) := by decide +kernel
theorem dX10_feudOf_46 : decode cX10_feudOf 46 = .ok (.invokespecial 49, 3) := by decide +kernel
theorem dX10_feudOf_49 : decode cX10_feudOf 49 = .ok (.areturn, 1) := by decide +kernel
theorem dX10_feudOf_50 : decode cX10_feudOf 50 = .ok (.new 50, 3) := by decide +kernel
theorem dX10_feudOf_53 : decode cX10_feudOf 53 = .ok (.dup, 1) := by decide +kernel
theorem dX10_feudOf_54 : decode cX10_feudOf 54 = .ok (.iload_n 1, 1) := by decide +kernel
theorem dX10_feudOf_55 : decode cX10_feudOf 55 = .ok (.invokespecial 52, 3) := by decide +kernel
theorem dX10_feudOf_58 : decode cX10_feudOf 58 = .ok (.areturn, 1) := by decide +kernel
theorem dX10_feudOf_59 : decode cX10_feudOf 59 = .ok (.new 53, 3) := by decide +kernel
theorem dX10_feudOf_62 : decode cX10_feudOf 62 = .ok (.dup, 1) := by decide +kernel
theorem dX10_feudOf_63 : decode cX10_feudOf 63 = .ok (.iload_n 1, 1) := by decide +kernel
theorem dX10_feudOf_64 : decode cX10_feudOf 64 = .ok (.invokespecial 55, 3) := by decide +kernel
theorem dX10_feudOf_67 : decode cX10_feudOf 67 = .ok (.areturn, 1) := by decide +kernel
theorem dX10_feudOf_68 : decode cX10_feudOf 68 = .ok (.new 9, 3) := by decide +kernel
theorem dX10_feudOf_71 : decode cX10_feudOf 71 = .ok (.dup, 1) := by decide +kernel
theorem dX10_feudOf_72 : decode cX10_feudOf 72 = .ok (.iload_n 1, 1) := by decide +kernel
theorem dX10_feudOf_73 : decode cX10_feudOf 73 = .ok (.invokespecial 25, 3) := by decide +kernel
theorem dX10_feudOf_76 : decode cX10_feudOf 76 = .ok (.areturn, 1) := by decide +kernel
theorem dX11_init_0 : decode cX11_init 0 = .ok (.aload_n 0, 1) := by decide +kernel
theorem dX11_init_1 : decode cX11_init 1 = .ok (.invokespecial 1, 3) := by decide +kernel
theorem dX11_init_4 : decode cX11_init 4 = .ok (.aload_n 0, 1) := by decide +kernel
theorem dX11_init_5 : decode cX11_init 5 = .ok (.new 7, 3) := by decide +kernel
theorem dX11_init_8 : decode cX11_init 8 = .ok (.dup, 1) := by decide +kernel
theorem dX11_init_9 : decode cX11_init 9 = .ok (.invokespecial 9, 3) := by decide +kernel
theorem dX11_init_12 : decode cX11_init 12 = .ok (.putfield 10, 3) := by decide +kernel
theorem dX11_init_15 : decode cX11_init 15 = .ok (.aload_n 0, 1) := by decide +kernel
theorem dX11_init_16 : decode cX11_init 16 = .ok (.new 16, 3) := by decide +kernel
theorem dX11_init_19 : decode cX11_init 19 = .ok (.dup, 1) := by decide +kernel
theorem dX11_init_20 : decode cX11_init 20 = .ok (.invokespecial 18, 3) := by decide +kernel
theorem dX11_init_23 : decode cX11_init 23 = .ok (.putfield 19, 3) := by decide +kernel
theorem dX11_init_26 : decode cX11_init 26 = .ok (.aload_n 0, 1) := by decide +kernel
theorem dX11_init_27 : decode cX11_init 27 = .ok (.new 23, 3) := by decide +kernel
theorem dX11_init_30 : decode cX11_init 30 = .ok (.dup, 1) := by decide +kernel
theorem dX11_init_31 : decode cX11_init 31 = .ok (.aload_n 0, 1) := by decide +kernel
theorem dX11_init_32 : decode cX11_init 32 = .ok (.getfield 19, 3) := by decide +kernel
theorem dX11_init_35 : decode cX11_init 35 = .ok (.invokespecial 25, 3) := by decide +kernel
theorem dX11_init_38 : decode cX11_init 38 = .ok (.putfield 28, 3) := by decide +kernel
theorem dX11_init_41 : decode cX11_init 41 = .ok (.aload_n 0, 1) := by decide +kernel
theorem dX11_init_42 : decode cX11_init 42 = .ok (.new 23, 3) := by decide +kernel
theorem dX11_init_45 : decode cX11_init 45 = .ok (.dup, 1) := by decide +kernel
theorem dX11_init_46 : decode cX11_init 46 = .ok (.aload_n 0, 1) := by decide +kernel
theorem dX11_init_47 : decode cX11_init 47 = .ok (.getfield 19, 3) := by decide +kernel
theorem dX11_init_50 : decode cX11_init 50 = .ok (.invokespecial 25, 3) := by decide +kernel
theorem dX11_init_53 : decode cX11_init 53 = .ok (.putfield 32, 3) := by decide +kernel
theorem dX11_init_56 : decode cX11_init 56 = .ok (.aload_n 0, 1) := by decide +kernel
theorem dX11_init_57 : decode cX11_init 57 = .ok (.new 23, 3) := by decide +kernel
theorem dX11_init_60 : decode cX11_init 60 = .ok (.dup, 1) := by decide +kernel
theorem dX11_init_61 : decode cX11_init 61 = .ok (.aload_n 0, 1) := by decide +kernel
theorem dX11_init_62 : decode cX11_init 62 = .ok (.getfield 19, 3) := by decide +kernel
theorem dX11_init_65 : decode cX11_init 65 = .ok (.invokespecial 25, 3) := by decide +kernel
theorem dX11_init_68 : decode cX11_init 68 = .ok (.putfield 35, 3) := by decide +kernel
theorem dX11_init_71 : decode cX11_init 71 = .ok (.aload_n 0, 1) := by decide +kernel
theorem dX11_init_72 : decode cX11_init 72 = .ok (.new 38, 3) := by decide +kernel
theorem dX11_init_75 : decode cX11_init 75 = .ok (.dup, 1) := by decide +kernel
theorem dX11_init_76 : decode cX11_init 76 = .ok (.invokespecial 40, 3) := by decide +kernel
theorem dX11_init_79 : decode cX11_init 79 = .ok (.putfield 41, 3) := by decide +kernel
theorem dX11_init_82 : decode cX11_init 82 = .ok (.aload_n 0, 1) := by decide +kernel
theorem dX11_init_83 : decode cX11_init 83 = .ok (.new 45, 3) := by decide +kernel
theorem dX11_init_86 : decode cX11_init 86 = .ok (.dup, 1) := by decide +kernel
theorem dX11_init_87 : decode cX11_init 87 = .ok (.invokespecial 47, 3) := by decide +kernel
theorem dX11_init_90 : decode cX11_init 90 = .ok (.putfield 48, 3) := by decide +kernel
theorem dX11_init_93 : decode cX11_init 93 = .ok (.aload_n 0, 1) := by decide +kernel
theorem dX11_init_94 : decode cX11_init 94 = .ok (.new 52, 3) := by decide +kernel
theorem dX11_init_97 : decode cX11_init 97 = .ok (.dup, 1) := by decide +kernel
theorem dX11_init_98 : decode cX11_init 98 = .ok (.invokespecial 54, 3) := by decide +kernel
theorem dX11_init_101 : decode cX11_init 101 = .ok (.putfield 55, 3) := by decide +kernel
theorem dX11_init_104 : decode cX11_init 104 = .ok (.aload_n 0, 1) := by decide +kernel
theorem dX11_init_105 : decode cX11_init 105 = .ok (.iconst 0, 1) := by decide +kernel
theorem dX11_init_106 : decode cX11_init 106 = .ok (.putfield 59, 3) := by decide +kernel
theorem dX11_init_109 : decode cX11_init 109 = .ok (.aload_n 0, 1) := by decide +kernel
theorem dX11_init_110 : decode cX11_init 110 = .ok (.iconst 0, 1) := by decide +kernel
theorem dX11_init_111 : decode cX11_init 111 = .ok (.putfield 63, 3) := by decide +kernel
theorem dX11_init_114 : decode cX11_init 114 = .ok (.return_, 1) := by decide +kernel
theorem dX11_letter_0 : decode cX11_letter 0 = .ok (.iload_n 1, 1) := by decide +kernel
theorem dX11_letter_1 : decode cX11_letter 1 = .ok (.iconst 1, 1) := by decide +kernel
theorem dX11_letter_2 : decode cX11_letter 2 = .ok (.if_icmp .lt 9, 3) := by decide +kernel
theorem dX11_letter_5 : decode cX11_letter 5 = .ok (.iload_n 1, 1) := by decide +kernel
theorem dX11_letter_6 : decode cX11_letter 6 = .ok (.bipush 126, 2) := by decide +kernel
theorem dX11_letter_8 : decode cX11_letter 8 = .ok (.if_icmp .le 6, 3) := by decide +kernel
theorem dX11_letter_11 : decode cX11_letter 11 = .ok (.bipush (-102), 2) := by decide +kernel
theorem dX11_letter_13 : decode cX11_letter 13 = .ok (.ireturn, 1) := by decide +kernel
theorem dX11_letter_14 : decode cX11_letter 14 = .ok (.aload_n 0, 1) := by decide +kernel
theorem dX11_letter_15 : decode cX11_letter 15 = .ok (.getfield 10, 3) := by decide +kernel
theorem dX11_letter_18 : decode cX11_letter 18 = .ok (.iload_n 1, 1) := by decide +kernel
theorem dX11_letter_19 : decode cX11_letter 19 = .ok (.invokevirtual 67, 3) := by decide +kernel
theorem dX11_letter_22 : decode cX11_letter 22 = .ok (.ifCond .eq 13, 3) := by decide +kernel
theorem dX11_letter_25 : decode cX11_letter 25 = .ok (.aload_n 0, 1) := by decide +kernel
theorem dX11_letter_26 : decode cX11_letter 26 = .ok (.getfield 10, 3) := by decide +kernel
theorem dX11_letter_29 : decode cX11_letter 29 = .ok (.getfield 71, 3) := by decide +kernel
theorem dX11_letter_32 : decode cX11_letter 32 = .ok (.goto 5, 3) := by decide +kernel
theorem dX11_letter_35 : decode cX11_letter 35 = .ok (.bipush (-104), 2) := by decide +kernel
theorem dX11_letter_37 : decode cX11_letter 37 = .ok (.ireturn, 1) := by decide +kernel
theorem dX11_blank_0 : decode cX11_blank 0 = .ok (.aload_n 0, 1) := by decide +kernel
theorem dX11_blank_1 : decode cX11_blank 1 = .ok (.getfield 10, 3) := by decide +kernel
theorem dX11_blank_4 : decode cX11_blank 4 = .ok (.invokevirtual 74, 3) := by decide +kernel
theorem dX11_blank_7 : decode cX11_blank 7 = .ok (.ireturn, 1) := by decide +kernel
theorem dX11_fault_0 : decode cX11_fault 0 = .ok (.aload_n 0, 1) := by decide +kernel
theorem dX11_fault_1 : decode cX11_fault 1 = .ok (.getfield 10, 3) := by decide +kernel
theorem dX11_fault_4 : decode cX11_fault 4 = .ok (.invokevirtual 78, 3) := by decide +kernel
theorem dX11_fault_7 : decode cX11_fault 7 = .ok (.aload_n 0, 1) := by decide +kernel
theorem dX11_fault_8 : decode cX11_fault 8 = .ok (.getfield 10, 3) := by decide +kernel
theorem dX11_fault_11 : decode cX11_fault 11 = .ok (.getfield 81, 3) := by decide +kernel
theorem dX11_fault_14 : decode cX11_fault 14 = .ok (.ireturn, 1) := by decide +kernel
theorem dX11_list_0 : decode cX11_list 0 = .ok (.aload_n 0, 1) := by decide +kernel
theorem dX11_list_1 : decode cX11_list 1 = .ok (.getfield 10, 3) := by decide +kernel
theorem dX11_list_4 : decode cX11_list 4 = .ok (.invokevirtual 84, 3) := by decide +kernel
theorem dX11_list_7 : decode cX11_list 7 = .ok (.ifCond .ne 6, 3) := by decide +kernel
theorem dX11_list_10 : decode cX11_list 10 = .ok (.bipush (-103), 2) := by decide +kernel
theorem dX11_list_12 : decode cX11_list 12 = .ok (.ireturn, 1) := by decide +kernel
theorem dX11_list_13 : decode cX11_list 13 = .ok (.aload_n 0, 1) := by decide +kernel
theorem dX11_list_14 : decode cX11_list 14 = .ok (.getfield 19, 3) := by decide +kernel
theorem dX11_list_17 : decode cX11_list 17 = .ok (.aload_n 0, 1) := by decide +kernel
theorem dX11_list_18 : decode cX11_list 18 = .ok (.getfield 10, 3) := by decide +kernel
theorem dX11_list_21 : decode cX11_list 21 = .ok (.invokevirtual 88, 3) := by decide +kernel
theorem dX11_list_24 : decode cX11_list 24 = .ok (.aload_n 0, 1) := by decide +kernel
theorem dX11_list_25 : decode cX11_list 25 = .ok (.getfield 10, 3) := by decide +kernel
theorem dX11_list_28 : decode cX11_list 28 = .ok (.invokevirtual 74, 3) := by decide +kernel
theorem dX11_list_31 : decode cX11_list 31 = .ok (.pop, 1) := by decide +kernel
theorem dX11_list_32 : decode cX11_list 32 = .ok (.aload_n 0, 1) := by decide +kernel
theorem dX11_list_33 : decode cX11_list 33 = .ok (.getfield 28, 3) := by decide +kernel
theorem dX11_list_36 : decode cX11_list 36 = .ok (.invokevirtual 92, 3) := by decide +kernel
theorem dX11_list_39 : decode cX11_list 39 = .ok (.aload_n 0, 1) := by decide +kernel
theorem dX11_list_40 : decode cX11_list 40 = .ok (.iconst 0, 1) := by decide +kernel
theorem dX11_list_41 : decode cX11_list 41 = .ok (.putfield 59, 3) := by decide +kernel
theorem dX11_list_44 : decode cX11_list 44 = .ok (.aload_n 0, 1) := by decide +kernel
theorem dX11_list_45 : decode cX11_list 45 = .ok (.dup, 1) := by decide +kernel
theorem dX11_list_46 : decode cX11_list 46 = .ok (.getfield 63, 3) := by decide +kernel
theorem dX11_list_49 : decode cX11_list 49 = .ok (.iconst 1, 1) := by decide +kernel
theorem dX11_list_50 : decode cX11_list 50 = .ok (.iadd, 1) := by decide +kernel
theorem dX11_list_51 : decode cX11_list 51 = .ok (.putfield 63, 3) := by decide +kernel
theorem dX11_list_54 : decode cX11_list 54 = .ok (.aload_n 0, 1) := by decide +kernel
theorem dX11_list_55 : decode cX11_list 55 = .ok (.getfield 19, 3) := by decide +kernel
theorem dX11_list_58 : decode cX11_list 58 = .ok (.getfield 95, 3) := by decide +kernel
theorem dX11_list_61 : decode cX11_list 61 = .ok (.ireturn, 1) := by decide +kernel
theorem dX11_about_0 : decode cX11_about 0 = .ok (.aload_n 0, 1) := by decide +kernel
theorem dX11_about_1 : decode cX11_about 1 = .ok (.iload_n 1, 1) := by decide +kernel
theorem dX11_about_2 : decode cX11_about 2 = .ok (.invokevirtual 98, 3) := by decide +kernel
theorem dX11_about_5 : decode cX11_about 5 = .ok (.ifCond .ne 6, 3) := by decide +kernel
theorem dX11_about_8 : decode cX11_about 8 = .ok (.bipush (-101), 2) := by decide +kernel
theorem dX11_about_10 : decode cX11_about 10 = .ok (.ireturn, 1) := by decide +kernel
theorem dX11_about_11 : decode cX11_about 11 = .ok (.iload_n 2, 1) := by decide +kernel
theorem dX11_about_12 : decode cX11_about 12 = .ok (.tableswitch 156 0 8 #[52, 65, 78, 96, 106, 116, 126, 136, 146], 52) := by decide +kernel
theorem dX11_about_64 : decode cX11_about 64 = .ok (.aload_n 0, 1) := by decide +kernel
theorem dX11_about_65 : decode cX11_about 65 = .ok (.getfield 19, 3) := by decide +kernel
theorem dX11_about_68 : decode cX11_about 68 = .ok (.getfield 101, 3) := by decide +kernel
theorem dX11_about_71 : decode cX11_about 71 = .ok (.iload_n 1, 1) := by decide +kernel
theorem dX11_about_72 : decode cX11_about 72 = .ok (.aaload, 1) := by decide +kernel
theorem dX11_about_73 : decode cX11_about 73 = .ok (.invokevirtual 105, 3) := by decide +kernel
theorem dX11_about_76 : decode cX11_about 76 = .ok (.ireturn, 1) := by decide +kernel
theorem dX11_about_77 : decode cX11_about 77 = .ok (.aload_n 0, 1) := by decide +kernel
theorem dX11_about_78 : decode cX11_about 78 = .ok (.getfield 19, 3) := by decide +kernel
theorem dX11_about_81 : decode cX11_about 81 = .ok (.getfield 101, 3) := by decide +kernel
theorem dX11_about_84 : decode cX11_about 84 = .ok (.iload_n 1, 1) := by decide +kernel
theorem dX11_about_85 : decode cX11_about 85 = .ok (.aaload, 1) := by decide +kernel
theorem dX11_about_86 : decode cX11_about 86 = .ok (.getfield 110, 3) := by decide +kernel
theorem dX11_about_89 : decode cX11_about 89 = .ok (.ireturn, 1) := by decide +kernel
theorem dX11_about_90 : decode cX11_about 90 = .ok (.aload_n 0, 1) := by decide +kernel
theorem dX11_about_91 : decode cX11_about 91 = .ok (.getfield 28, 3) := by decide +kernel
theorem dX11_about_94 : decode cX11_about 94 = .ok (.getfield 113, 3) := by decide +kernel
theorem dX11_about_97 : decode cX11_about 97 = .ok (.iload_n 1, 1) := by decide +kernel
theorem dX11_about_98 : decode cX11_about 98 = .ok (.baload, 1) := by decide +kernel
theorem dX11_about_99 : decode cX11_about 99 = .ok (.ifCond .eq 7, 3) := by decide +kernel
theorem dX11_about_102 : decode cX11_about 102 = .ok (.iconst 1, 1) := by decide +kernel
theorem dX11_about_103 : decode cX11_about 103 = .ok (.goto 4, 3) := by decide +kernel
theorem dX11_about_106 : decode cX11_about 106 = .ok (.iconst 0, 1) := by decide +kernel
theorem dX11_about_107 : decode cX11_about 107 = .ok (.ireturn, 1) := by decide +kernel
theorem dX11_about_108 : decode cX11_about 108 = .ok (.aload_n 0, 1) := by decide +kernel
theorem dX11_about_109 : decode cX11_about 109 = .ok (.getfield 28, 3) := by decide +kernel
theorem dX11_about_112 : decode cX11_about 112 = .ok (.iload_n 1, 1) := by decide +kernel
theorem dX11_about_113 : decode cX11_about 113 = .ok (.iconst 0, 1) := by decide +kernel
theorem dX11_about_114 : decode cX11_about 114 = .ok (.invokevirtual 117, 3) := by decide +kernel
theorem dX11_about_117 : decode cX11_about 117 = .ok (.ireturn, 1) := by decide +kernel
theorem dX11_about_118 : decode cX11_about 118 = .ok (.aload_n 0, 1) := by decide +kernel
theorem dX11_about_119 : decode cX11_about 119 = .ok (.getfield 28, 3) := by decide +kernel
theorem dX11_about_122 : decode cX11_about 122 = .ok (.iload_n 1, 1) := by decide +kernel
theorem dX11_about_123 : decode cX11_about 123 = .ok (.iconst 1, 1) := by decide +kernel
theorem dX11_about_124 : decode cX11_about 124 = .ok (.invokevirtual 117, 3) := by decide +kernel
theorem dX11_about_127 : decode cX11_about 127 = .ok (.ireturn, 1) := by decide +kernel
theorem dX11_about_128 : decode cX11_about 128 = .ok (.aload_n 0, 1) := by decide +kernel
theorem dX11_about_129 : decode cX11_about 129 = .ok (.getfield 28, 3) := by decide +kernel
theorem dX11_about_132 : decode cX11_about 132 = .ok (.iload_n 1, 1) := by decide +kernel
theorem dX11_about_133 : decode cX11_about 133 = .ok (.iconst 0, 1) := by decide +kernel
theorem dX11_about_134 : decode cX11_about 134 = .ok (.invokevirtual 121, 3) := by decide +kernel
theorem dX11_about_137 : decode cX11_about 137 = .ok (.ireturn, 1) := by decide +kernel
theorem dX11_about_138 : decode cX11_about 138 = .ok (.aload_n 0, 1) := by decide +kernel
theorem dX11_about_139 : decode cX11_about 139 = .ok (.getfield 28, 3) := by decide +kernel
theorem dX11_about_142 : decode cX11_about 142 = .ok (.iload_n 1, 1) := by decide +kernel
theorem dX11_about_143 : decode cX11_about 143 = .ok (.iconst 1, 1) := by decide +kernel
theorem dX11_about_144 : decode cX11_about 144 = .ok (.invokevirtual 121, 3) := by decide +kernel
theorem dX11_about_147 : decode cX11_about 147 = .ok (.ireturn, 1) := by decide +kernel
theorem dX11_about_148 : decode cX11_about 148 = .ok (.aload_n 0, 1) := by decide +kernel
theorem dX11_about_149 : decode cX11_about 149 = .ok (.getfield 28, 3) := by decide +kernel
theorem dX11_about_152 : decode cX11_about 152 = .ok (.iload_n 1, 1) := by decide +kernel
theorem dX11_about_153 : decode cX11_about 153 = .ok (.iconst 0, 1) := by decide +kernel
theorem dX11_about_154 : decode cX11_about 154 = .ok (.invokevirtual 124, 3) := by decide +kernel
theorem dX11_about_157 : decode cX11_about 157 = .ok (.ireturn, 1) := by decide +kernel
theorem dX11_about_158 : decode cX11_about 158 = .ok (.aload_n 0, 1) := by decide +kernel
theorem dX11_about_159 : decode cX11_about 159 = .ok (.getfield 28, 3) := by decide +kernel
theorem dX11_about_162 : decode cX11_about 162 = .ok (.iload_n 1, 1) := by decide +kernel
theorem dX11_about_163 : decode cX11_about 163 = .ok (.iconst 1, 1) := by decide +kernel
theorem dX11_about_164 : decode cX11_about 164 = .ok (.invokevirtual 124, 3) := by decide +kernel
theorem dX11_about_167 : decode cX11_about 167 = .ok (.ireturn, 1) := by decide +kernel
theorem dX11_about_168 : decode cX11_about 168 = .ok (.bipush (-102), 2) := by decide +kernel
theorem dX11_about_170 : decode cX11_about 170 = .ok (.ireturn, 1) := by decide +kernel
theorem dX11_as_0 : decode cX11_as 0 = .ok (.aload_n 0, 1) := by decide +kernel
theorem dX11_as_1 : decode cX11_as 1 = .ok (.iload_n 1, 1) := by decide +kernel
theorem dX11_as_2 : decode cX11_as 2 = .ok (.invokevirtual 98, 3) := by decide +kernel
theorem dX11_as_5 : decode cX11_as 5 = .ok (.ifCond .ne 6, 3) := by decide +kernel
theorem dX11_as_8 : decode cX11_as 8 = .ok (.bipush (-101), 2) := by decide +kernel
theorem dX11_as_10 : decode cX11_as 10 = .ok (.ireturn, 1) := by decide +kernel
theorem dX11_as_11 : decode cX11_as 11 = .ok (.iload_n 2, 1) := by decide +kernel
theorem dX11_as_12 : decode cX11_as 12 = .ok (.ifCond .lt 8, 3) := by decide +kernel
theorem dX11_as_15 : decode cX11_as 15 = .ok (.iload_n 2, 1) := by decide +kernel
theorem dX11_as_16 : decode cX11_as 16 = .ok (.iconst 4, 1) := by decide +kernel
theorem dX11_as_17 : decode cX11_as 17 = .ok (.if_icmp .le 6, 3) := by decide +kernel
theorem dX11_as_20 : decode cX11_as 20 = .ok (.bipush (-102), 2) := by decide +kernel
theorem dX11_as_22 : decode cX11_as 22 = .ok (.ireturn, 1) := by decide +kernel
theorem dX11_as_23 : decode cX11_as 23 = .ok (.aload_n 0, 1) := by decide +kernel
theorem dX11_as_24 : decode cX11_as 24 = .ok (.getfield 19, 3) := by decide +kernel
theorem dX11_as_27 : decode cX11_as 27 = .ok (.getfield 101, 3) := by decide +kernel
theorem dX11_as_30 : decode cX11_as 30 = .ok (.iload_n 1, 1) := by decide +kernel
theorem dX11_as_31 : decode cX11_as 31 = .ok (.aaload, 1) := by decide +kernel
theorem dX11_as_32 : decode cX11_as 32 = .ok (.iload_n 2, 1) := by decide +kernel
theorem dX11_as_33 : decode cX11_as 33 = .ok (.invokestatic 127, 3) := by decide +kernel
theorem dX11_as_36 : decode cX11_as 36 = .ok (.ifCond .eq 7, 3) := by decide +kernel
theorem dX11_as_39 : decode cX11_as 39 = .ok (.iload_n 1, 1) := by decide +kernel
theorem dX11_as_40 : decode cX11_as 40 = .ok (.goto 4, 3) := by decide +kernel
theorem dX11_as_43 : decode cX11_as 43 = .ok (.iconst (-1), 1) := by decide +kernel
theorem dX11_as_44 : decode cX11_as 44 = .ok (.ireturn, 1) := by decide +kernel
theorem dX11_person_0 : decode cX11_person 0 = .ok (.iload_n 1, 1) := by decide +kernel
theorem dX11_person_1 : decode cX11_person 1 = .ok (.invokestatic 131, 3) := by decide +kernel
theorem dX11_person_4 : decode cX11_person 4 = .ok (.ifCond .ne 6, 3) := by decide +kernel
theorem dX11_person_7 : decode cX11_person 7 = .ok (.bipush (-101), 2) := by decide +kernel
theorem dX11_person_9 : decode cX11_person 9 = .ok (.ireturn, 1) := by decide +kernel
theorem dX11_person_10 : decode cX11_person 10 = .ok (.iload_n 2, 1) := by decide +kernel
theorem dX11_person_11 : decode cX11_person 11 = .ok (.tableswitch 125 0 5 #[37, 47, 57, 75, 87, 106], 37) := by decide +kernel
theorem dX11_person_48 : decode cX11_person 48 = .ok (.aload_n 0, 1) := by decide +kernel
theorem dX11_person_49 : decode cX11_person 49 = .ok (.getfield 28, 3) := by decide +kernel
theorem dX11_person_52 : decode cX11_person 52 = .ok (.getfield 134, 3) := by decide +kernel
theorem dX11_person_55 : decode cX11_person 55 = .ok (.iload_n 1, 1) := by decide +kernel
theorem dX11_person_56 : decode cX11_person 56 = .ok (.iaload, 1) := by decide +kernel
theorem dX11_person_57 : decode cX11_person 57 = .ok (.ireturn, 1) := by decide +kernel
theorem dX11_person_58 : decode cX11_person 58 = .ok (.aload_n 0, 1) := by decide +kernel
theorem dX11_person_59 : decode cX11_person 59 = .ok (.getfield 28, 3) := by decide +kernel
theorem dX11_person_62 : decode cX11_person 62 = .ok (.getfield 138, 3) := by decide +kernel
theorem dX11_person_65 : decode cX11_person 65 = .ok (.iload_n 1, 1) := by decide +kernel
theorem dX11_person_66 : decode cX11_person 66 = .ok (.iaload, 1) := by decide +kernel
theorem dX11_person_67 : decode cX11_person 67 = .ok (.ireturn, 1) := by decide +kernel
theorem dX11_person_68 : decode cX11_person 68 = .ok (.aload_n 0, 1) := by decide +kernel
theorem dX11_person_69 : decode cX11_person 69 = .ok (.getfield 28, 3) := by decide +kernel
theorem dX11_person_72 : decode cX11_person 72 = .ok (.getfield 141, 3) := by decide +kernel
theorem dX11_person_75 : decode cX11_person 75 = .ok (.iload_n 1, 1) := by decide +kernel
theorem dX11_person_76 : decode cX11_person 76 = .ok (.baload, 1) := by decide +kernel
theorem dX11_person_77 : decode cX11_person 77 = .ok (.ifCond .eq 7, 3) := by decide +kernel
theorem dX11_person_80 : decode cX11_person 80 = .ok (.iconst 1, 1) := by decide +kernel
theorem dX11_person_81 : decode cX11_person 81 = .ok (.goto 4, 3) := by decide +kernel
theorem dX11_person_84 : decode cX11_person 84 = .ok (.iconst 0, 1) := by decide +kernel
theorem dX11_person_85 : decode cX11_person 85 = .ok (.ireturn, 1) := by decide +kernel
theorem dX11_person_86 : decode cX11_person 86 = .ok (.aload_n 0, 1) := by decide +kernel
theorem dX11_person_87 : decode cX11_person 87 = .ok (.getfield 28, 3) := by decide +kernel
theorem dX11_person_90 : decode cX11_person 90 = .ok (.iload_n 1, 1) := by decide +kernel
theorem dX11_person_91 : decode cX11_person 91 = .ok (.invokevirtual 144, 3) := by decide +kernel
theorem dX11_person_94 : decode cX11_person 94 = .ok (.invokestatic 148, 3) := by decide +kernel
theorem dX11_person_97 : decode cX11_person 97 = .ok (.ireturn, 1) := by decide +kernel
theorem dX11_person_98 : decode cX11_person 98 = .ok (.aload_n 0, 1) := by decide +kernel
theorem dX11_person_99 : decode cX11_person 99 = .ok (.getfield 28, 3) := by decide +kernel
theorem dX11_person_102 : decode cX11_person 102 = .ok (.getfield 153, 3) := by decide +kernel
theorem dX11_person_105 : decode cX11_person 105 = .ok (.aload_n 0, 1) := by decide +kernel
theorem dX11_person_106 : decode cX11_person 106 = .ok (.getfield 28, 3) := by decide +kernel
theorem dX11_person_109 : decode cX11_person 109 = .ok (.getfield 156, 3) := by decide +kernel
theorem dX11_person_112 : decode cX11_person 112 = .ok (.iload_n 1, 1) := by decide +kernel
theorem dX11_person_113 : decode cX11_person 113 = .ok (.invokestatic 159, 3) := by decide +kernel
theorem dX11_person_116 : decode cX11_person 116 = .ok (.ireturn, 1) := by decide +kernel
theorem dX11_person_117 : decode cX11_person 117 = .ok (.aload_n 0, 1) := by decide +kernel
theorem dX11_person_118 : decode cX11_person 118 = .ok (.getfield 28, 3) := by decide +kernel
theorem dX11_person_121 : decode cX11_person 121 = .ok (.getfield 163, 3) := by decide +kernel
theorem dX11_person_124 : decode cX11_person 124 = .ok (.aload_n 0, 1) := by decide +kernel
theorem dX11_person_125 : decode cX11_person 125 = .ok (.getfield 28, 3) := by decide +kernel
theorem dX11_person_128 : decode cX11_person 128 = .ok (.getfield 156, 3) := by decide +kernel
theorem dX11_person_131 : decode cX11_person 131 = .ok (.iload_n 1, 1) := by decide +kernel
theorem dX11_person_132 : decode cX11_person 132 = .ok (.invokestatic 159, 3) := by decide +kernel
theorem dX11_person_135 : decode cX11_person 135 = .ok (.ireturn, 1) := by decide +kernel
theorem dX11_person_136 : decode cX11_person 136 = .ok (.bipush (-102), 2) := by decide +kernel
theorem dX11_person_138 : decode cX11_person 138 = .ok (.ireturn, 1) := by decide +kernel
theorem dX11_heir_0 : decode cX11_heir 0 = .ok (.iload_n 1, 1) := by decide +kernel
theorem dX11_heir_1 : decode cX11_heir 1 = .ok (.invokestatic 131, 3) := by decide +kernel
theorem dX11_heir_4 : decode cX11_heir 4 = .ok (.ifCond .eq 20, 3) := by decide +kernel
theorem dX11_heir_7 : decode cX11_heir 7 = .ok (.iload_n 2, 1) := by decide +kernel
theorem dX11_heir_8 : decode cX11_heir 8 = .ok (.iconst (-1), 1) := by decide +kernel
theorem dX11_heir_9 : decode cX11_heir 9 = .ok (.if_icmp .eq 10, 3) := by decide +kernel
theorem dX11_heir_12 : decode cX11_heir 12 = .ok (.iload_n 2, 1) := by decide +kernel
theorem dX11_heir_13 : decode cX11_heir 13 = .ok (.invokestatic 131, 3) := by decide +kernel
theorem dX11_heir_16 : decode cX11_heir 16 = .ok (.ifCond .eq 8, 3) := by decide +kernel
theorem dX11_heir_19 : decode cX11_heir 19 = .ok (.iload_n 1, 1) := by decide +kernel
theorem dX11_heir_20 : decode cX11_heir 20 = .ok (.iload_n 2, 1) := by decide +kernel
theorem dX11_heir_21 : decode cX11_heir 21 = .ok (.if_icmp .ne 6, 3) := by decide +kernel
theorem dX11_heir_24 : decode cX11_heir 24 = .ok (.bipush (-101), 2) := by decide +kernel
theorem dX11_heir_26 : decode cX11_heir 26 = .ok (.ireturn, 1) := by decide +kernel
theorem dX11_heir_27 : decode cX11_heir 27 = .ok (.aload_n 0, 1) := by decide +kernel
theorem dX11_heir_28 : decode cX11_heir 28 = .ok (.invokevirtual 166, 3) := by decide +kernel
theorem dX11_heir_31 : decode cX11_heir 31 = .ok (.ifCond .eq 15, 3) := by decide +kernel
theorem dX11_heir_34 : decode cX11_heir 34 = .ok (.aload_n 0, 1) := by decide +kernel
theorem dX11_heir_35 : decode cX11_heir 35 = .ok (.getfield 28, 3) := by decide +kernel
theorem dX11_heir_38 : decode cX11_heir 38 = .ok (.getfield 141, 3) := by decide +kernel
theorem dX11_heir_41 : decode cX11_heir 41 = .ok (.iload_n 1, 1) := by decide +kernel
theorem dX11_heir_42 : decode cX11_heir 42 = .ok (.baload, 1) := by decide +kernel
theorem dX11_heir_43 : decode cX11_heir 43 = .ok (.ifCond .ne 6, 3) := by decide +kernel
theorem dX11_heir_46 : decode cX11_heir 46 = .ok (.bipush (-103), 2) := by decide +kernel
theorem dX11_heir_48 : decode cX11_heir 48 = .ok (.ireturn, 1) := by decide +kernel
theorem dX11_heir_49 : decode cX11_heir 49 = .ok (.aload_n 0, 1) := by decide +kernel
theorem dX11_heir_50 : decode cX11_heir 50 = .ok (.getfield 28, 3) := by decide +kernel
theorem dX11_heir_53 : decode cX11_heir 53 = .ok (.getfield 138, 3) := by decide +kernel
theorem dX11_heir_56 : decode cX11_heir 56 = .ok (.iload_n 1, 1) := by decide +kernel
theorem dX11_heir_57 : decode cX11_heir 57 = .ok (.iaload, 1) := by decide +kernel
theorem dX11_heir_58 : decode cX11_heir 58 = .ok (.istore_n 3, 1) := by decide +kernel
theorem dX11_heir_59 : decode cX11_heir 59 = .ok (.aload_n 0, 1) := by decide +kernel
theorem dX11_heir_60 : decode cX11_heir 60 = .ok (.getfield 28, 3) := by decide +kernel
theorem dX11_heir_63 : decode cX11_heir 63 = .ok (.getfield 138, 3) := by decide +kernel
theorem dX11_heir_66 : decode cX11_heir 66 = .ok (.iload_n 1, 1) := by decide +kernel
theorem dX11_heir_67 : decode cX11_heir 67 = .ok (.iload_n 2, 1) := by decide +kernel
theorem dX11_heir_68 : decode cX11_heir 68 = .ok (.iastore, 1) := by decide +kernel
theorem dX11_heir_69 : decode cX11_heir 69 = .ok (.iload_n 3, 1) := by decide +kernel
theorem dX11_heir_70 : decode cX11_heir 70 = .ok (.ireturn, 1) := by decide +kernel
theorem dX11_buy_0 : decode cX11_buy 0 = .ok (.iload_n 1, 1) := by decide +kernel
theorem dX11_buy_1 : decode cX11_buy 1 = .ok (.invokestatic 131, 3) := by decide +kernel
theorem dX11_buy_4 : decode cX11_buy 4 = .ok (.ifCond .eq 11, 3) := by decide +kernel
theorem dX11_buy_7 : decode cX11_buy 7 = .ok (.aload_n 0, 1) := by decide +kernel
theorem dX11_buy_8 : decode cX11_buy 8 = .ok (.iload_n 2, 1) := by decide +kernel
theorem dX11_buy_9 : decode cX11_buy 9 = .ok (.invokevirtual 98, 3) := by decide +kernel
theorem dX11_buy_12 : decode cX11_buy 12 = .ok (.ifCond .ne 6, 3) := by decide +kernel
theorem dX11_buy_15 : decode cX11_buy 15 = .ok (.bipush (-101), 2) := by decide +kernel
theorem dX11_buy_17 : decode cX11_buy 17 = .ok (.ireturn, 1) := by decide +kernel
theorem dX11_buy_18 : decode cX11_buy 18 = .ok (.iload_n 3, 1) := by decide +kernel
theorem dX11_buy_19 : decode cX11_buy 19 = .ok (.invokestatic 169, 3) := by decide +kernel
theorem dX11_buy_22 : decode cX11_buy 22 = .ok (.ifCond .ne 6, 3) := by decide +kernel
theorem dX11_buy_25 : decode cX11_buy 25 = .ok (.bipush (-102), 2) := by decide +kernel
theorem dX11_buy_27 : decode cX11_buy 27 = .ok (.ireturn, 1) := by decide +kernel
theorem dX11_buy_28 : decode cX11_buy 28 = .ok (.aload_n 0, 1) := by decide +kernel
theorem dX11_buy_29 : decode cX11_buy 29 = .ok (.getfield 28, 3) := by decide +kernel
theorem dX11_buy_32 : decode cX11_buy 32 = .ok (.iload_n 1, 1) := by decide +kernel
theorem dX11_buy_33 : decode cX11_buy 33 = .ok (.iload_n 2, 1) := by decide +kernel
theorem dX11_buy_34 : decode cX11_buy 34 = .ok (.iload_n 3, 1) := by decide +kernel
theorem dX11_buy_35 : decode cX11_buy 35 = .ok (.invokevirtual 172, 3) := by decide +kernel
theorem dX11_buy_38 : decode cX11_buy 38 = .ok (.ifCond .eq 16, 3) := by decide +kernel
theorem dX11_buy_41 : decode cX11_buy 41 = .ok (.aload_n 0, 1) := by decide +kernel
theorem dX11_buy_42 : decode cX11_buy 42 = .ok (.getfield 28, 3) := by decide +kernel
theorem dX11_buy_45 : decode cX11_buy 45 = .ok (.iload_n 1, 1) := by decide +kernel
theorem dX11_buy_46 : decode cX11_buy 46 = .ok (.iload_n 2, 1) := by decide +kernel
theorem dX11_buy_47 : decode cX11_buy 47 = .ok (.iload_n 3, 1) := by decide +kernel
theorem dX11_buy_48 : decode cX11_buy 48 = .ok (.invokevirtual 176, 3) := by decide +kernel
theorem dX11_buy_51 : decode cX11_buy 51 = .ok (.goto 5, 3) := by decide +kernel
theorem dX11_buy_54 : decode cX11_buy 54 = .ok (.bipush (-103), 2) := by decide +kernel
theorem dX11_buy_56 : decode cX11_buy 56 = .ok (.ireturn, 1) := by decide +kernel
theorem dX11_lend_0 : decode cX11_lend 0 = .ok (.aload_n 0, 1) := by decide +kernel
theorem dX11_lend_1 : decode cX11_lend 1 = .ok (.iload_n 1, 1) := by decide +kernel
theorem dX11_lend_2 : decode cX11_lend 2 = .ok (.invokevirtual 98, 3) := by decide +kernel
theorem dX11_lend_5 : decode cX11_lend 5 = .ok (.ifCond .eq 10, 3) := by decide +kernel
theorem dX11_lend_8 : decode cX11_lend 8 = .ok (.iload_n 3, 1) := by decide +kernel
theorem dX11_lend_9 : decode cX11_lend 9 = .ok (.invokestatic 131, 3) := by decide +kernel
theorem dX11_lend_12 : decode cX11_lend 12 = .ok (.ifCond .ne 6, 3) := by decide +kernel
theorem dX11_lend_15 : decode cX11_lend 15 = .ok (.bipush (-101), 2) := by decide +kernel
theorem dX11_lend_17 : decode cX11_lend 17 = .ok (.ireturn, 1) := by decide +kernel
theorem dX11_lend_18 : decode cX11_lend 18 = .ok (.iload_n 2, 1) := by decide +kernel
theorem dX11_lend_19 : decode cX11_lend 19 = .ok (.invokestatic 169, 3) := by decide +kernel
theorem dX11_lend_22 : decode cX11_lend 22 = .ok (.ifCond .ne 6, 3) := by decide +kernel
theorem dX11_lend_25 : decode cX11_lend 25 = .ok (.bipush (-102), 2) := by decide +kernel
theorem dX11_lend_27 : decode cX11_lend 27 = .ok (.ireturn, 1) := by decide +kernel
theorem dX11_lend_28 : decode cX11_lend 28 = .ok (.aload_n 0, 1) := by decide +kernel
theorem dX11_lend_29 : decode cX11_lend 29 = .ok (.getfield 28, 3) := by decide +kernel
theorem dX11_lend_32 : decode cX11_lend 32 = .ok (.iload_n 1, 1) := by decide +kernel
theorem dX11_lend_33 : decode cX11_lend 33 = .ok (.iload_n 2, 1) := by decide +kernel
theorem dX11_lend_34 : decode cX11_lend 34 = .ok (.iload_n 3, 1) := by decide +kernel
theorem dX11_lend_35 : decode cX11_lend 35 = .ok (.invokevirtual 180, 3) := by decide +kernel
theorem dX11_lend_38 : decode cX11_lend 38 = .ok (.ifCond .ne 6, 3) := by decide +kernel
theorem dX11_lend_41 : decode cX11_lend 41 = .ok (.bipush (-103), 2) := by decide +kernel
theorem dX11_lend_43 : decode cX11_lend 43 = .ok (.ireturn, 1) := by decide +kernel
theorem dX11_lend_44 : decode cX11_lend 44 = .ok (.aload_n 0, 1) := by decide +kernel
theorem dX11_lend_45 : decode cX11_lend 45 = .ok (.getfield 28, 3) := by decide +kernel
theorem dX11_lend_48 : decode cX11_lend 48 = .ok (.getfield 183, 3) := by decide +kernel
theorem dX11_lend_51 : decode cX11_lend 51 = .ok (.iconst 2, 1) := by decide +kernel
theorem dX11_lend_52 : decode cX11_lend 52 = .ok (.iload_n 1, 1) := by decide +kernel
theorem dX11_lend_53 : decode cX11_lend 53 = .ok (.imul, 1) := by decide +kernel
theorem dX11_lend_54 : decode cX11_lend 54 = .ok (.iload_n 2, 1) := by decide +kernel
theorem dX11_lend_55 : decode cX11_lend 55 = .ok (.iadd, 1) := by decide +kernel
theorem dX11_lend_56 : decode cX11_lend 56 = .ok (.iload_n 3, 1) := by decide +kernel
theorem dX11_lend_57 : decode cX11_lend 57 = .ok (.iastore, 1) := by decide +kernel
theorem dX11_lend_58 : decode cX11_lend 58 = .ok (.aload_n 0, 1) := by decide +kernel
theorem dX11_lend_59 : decode cX11_lend 59 = .ok (.getfield 28, 3) := by decide +kernel
theorem dX11_lend_62 : decode cX11_lend 62 = .ok (.iload_n 1, 1) := by decide +kernel
theorem dX11_lend_63 : decode cX11_lend 63 = .ok (.iload_n 2, 1) := by decide +kernel
theorem dX11_lend_64 : decode cX11_lend 64 = .ok (.invokevirtual 121, 3) := by decide +kernel
theorem dX11_lend_67 : decode cX11_lend 67 = .ok (.ireturn, 1) := by decide +kernel
theorem dX11_peace_0 : decode cX11_peace 0 = .ok (.aload_n 0, 1) := by decide +kernel
theorem dX11_peace_1 : decode cX11_peace 1 = .ok (.iload_n 1, 1) := by decide +kernel
theorem dX11_peace_2 : decode cX11_peace 2 = .ok (.invokevirtual 98, 3) := by decide +kernel
theorem dX11_peace_5 : decode cX11_peace 5 = .ok (.ifCond .ne 6, 3) := by decide +kernel
theorem dX11_peace_8 : decode cX11_peace 8 = .ok (.bipush (-101), 2) := by decide +kernel
theorem dX11_peace_10 : decode cX11_peace 10 = .ok (.ireturn, 1) := by decide +kernel
theorem dX11_peace_11 : decode cX11_peace 11 = .ok (.aload_n 0, 1) := by decide +kernel
theorem dX11_peace_12 : decode cX11_peace 12 = .ok (.getfield 28, 3) := by decide +kernel
theorem dX11_peace_15 : decode cX11_peace 15 = .ok (.iload_n 1, 1) := by decide +kernel
theorem dX11_peace_16 : decode cX11_peace 16 = .ok (.invokevirtual 186, 3) := by decide +kernel
theorem dX11_peace_19 : decode cX11_peace 19 = .ok (.ifCond .ne 6, 3) := by decide +kernel
theorem dX11_peace_22 : decode cX11_peace 22 = .ok (.bipush (-103), 2) := by decide +kernel
theorem dX11_peace_24 : decode cX11_peace 24 = .ok (.ireturn, 1) := by decide +kernel
theorem dX11_peace_25 : decode cX11_peace 25 = .ok (.aload_n 0, 1) := by decide +kernel
theorem dX11_peace_26 : decode cX11_peace 26 = .ok (.getfield 28, 3) := by decide +kernel
theorem dX11_peace_29 : decode cX11_peace 29 = .ok (.iload_n 1, 1) := by decide +kernel
theorem dX11_peace_30 : decode cX11_peace 30 = .ok (.invokevirtual 189, 3) := by decide +kernel
theorem dX11_peace_33 : decode cX11_peace 33 = .ok (.aload_n 0, 1) := by decide +kernel
theorem dX11_peace_34 : decode cX11_peace 34 = .ok (.getfield 28, 3) := by decide +kernel
theorem dX11_peace_37 : decode cX11_peace 37 = .ok (.invokevirtual 193, 3) := by decide +kernel
theorem dX11_peace_40 : decode cX11_peace 40 = .ok (.ireturn, 1) := by decide +kernel
theorem dX11_death_0 : decode cX11_death 0 = .ok (.iload_n 1, 1) := by decide +kernel
theorem dX11_death_1 : decode cX11_death 1 = .ok (.invokestatic 131, 3) := by decide +kernel
theorem dX11_death_4 : decode cX11_death 4 = .ok (.ifCond .ne 6, 3) := by decide +kernel
theorem dX11_death_7 : decode cX11_death 7 = .ok (.bipush (-101), 2) := by decide +kernel
theorem dX11_death_9 : decode cX11_death 9 = .ok (.ireturn, 1) := by decide +kernel
theorem dX11_death_10 : decode cX11_death 10 = .ok (.aload_n 0, 1) := by decide +kernel
theorem dX11_death_11 : decode cX11_death 11 = .ok (.invokevirtual 166, 3) := by decide +kernel
theorem dX11_death_14 : decode cX11_death 14 = .ok (.ifCond .eq 26, 3) := by decide +kernel
theorem dX11_death_17 : decode cX11_death 17 = .ok (.aload_n 0, 1) := by decide +kernel
theorem dX11_death_18 : decode cX11_death 18 = .ok (.getfield 28, 3) := by decide +kernel
theorem dX11_death_21 : decode cX11_death 21 = .ok (.getfield 141, 3) := by decide +kernel
theorem dX11_death_24 : decode cX11_death 24 = .ok (.iload_n 1, 1) := by decide +kernel
theorem dX11_death_25 : decode cX11_death 25 = .ok (.baload, 1) := by decide +kernel
theorem dX11_death_26 : decode cX11_death 26 = .ok (.ifCond .eq 14, 3) := by decide +kernel
theorem dX11_death_29 : decode cX11_death 29 = .ok (.aload_n 0, 1) := by decide +kernel
theorem dX11_death_30 : decode cX11_death 30 = .ok (.getfield 28, 3) := by decide +kernel
theorem dX11_death_33 : decode cX11_death 33 = .ok (.iload_n 1, 1) := by decide +kernel
theorem dX11_death_34 : decode cX11_death 34 = .ok (.invokevirtual 196, 3) := by decide +kernel
theorem dX11_death_37 : decode cX11_death 37 = .ok (.goto 5, 3) := by decide +kernel
theorem dX11_death_40 : decode cX11_death 40 = .ok (.bipush (-103), 2) := by decide +kernel
theorem dX11_death_42 : decode cX11_death 42 = .ok (.ireturn, 1) := by decide +kernel
theorem dX11_mayHarm_0 : decode cX11_mayHarm 0 = .ok (.iload_n 1, 1) := by decide +kernel
theorem dX11_mayHarm_1 : decode cX11_mayHarm 1 = .ok (.iload_n 2, 1) := by decide +kernel
theorem dX11_mayHarm_2 : decode cX11_mayHarm 2 = .ok (.invokestatic 199, 3) := by decide +kernel
theorem dX11_mayHarm_5 : decode cX11_mayHarm 5 = .ok (.ifCond .eq 15, 3) := by decide +kernel
theorem dX11_mayHarm_8 : decode cX11_mayHarm 8 = .ok (.aload_n 0, 1) := by decide +kernel
theorem dX11_mayHarm_9 : decode cX11_mayHarm 9 = .ok (.getfield 28, 3) := by decide +kernel
theorem dX11_mayHarm_12 : decode cX11_mayHarm 12 = .ok (.iload_n 1, 1) := by decide +kernel
theorem dX11_mayHarm_13 : decode cX11_mayHarm 13 = .ok (.iload_n 2, 1) := by decide +kernel
theorem dX11_mayHarm_14 : decode cX11_mayHarm 14 = .ok (.invokevirtual 203, 3) := by decide +kernel
theorem dX11_mayHarm_17 : decode cX11_mayHarm 17 = .ok (.goto 5, 3) := by decide +kernel
theorem dX11_mayHarm_20 : decode cX11_mayHarm 20 = .ok (.bipush (-101), 2) := by decide +kernel
theorem dX11_mayHarm_22 : decode cX11_mayHarm 22 = .ok (.ireturn, 1) := by decide +kernel
theorem dX11_harm_0 : decode cX11_harm 0 = .ok (.iload_n 1, 1) := by decide +kernel
theorem dX11_harm_1 : decode cX11_harm 1 = .ok (.iload_n 2, 1) := by decide +kernel
theorem dX11_harm_2 : decode cX11_harm 2 = .ok (.invokestatic 199, 3) := by decide +kernel
theorem dX11_harm_5 : decode cX11_harm 5 = .ok (.ifCond .ne 6, 3) := by decide +kernel
theorem dX11_harm_8 : decode cX11_harm 8 = .ok (.bipush (-101), 2) := by decide +kernel
theorem dX11_harm_10 : decode cX11_harm 10 = .ok (.ireturn, 1) := by decide +kernel
theorem dX11_harm_11 : decode cX11_harm 11 = .ok (.aload_n 0, 1) := by decide +kernel
theorem dX11_harm_12 : decode cX11_harm 12 = .ok (.getfield 28, 3) := by decide +kernel
theorem dX11_harm_15 : decode cX11_harm 15 = .ok (.iload_n 1, 1) := by decide +kernel
theorem dX11_harm_16 : decode cX11_harm 16 = .ok (.iload_n 2, 1) := by decide +kernel
theorem dX11_harm_17 : decode cX11_harm 17 = .ok (.invokevirtual 203, 3) := by decide +kernel
theorem dX11_harm_20 : decode cX11_harm 20 = .ok (.istore_n 3, 1) := by decide +kernel
theorem dX11_harm_21 : decode cX11_harm 21 = .ok (.iload_n 3, 1) := by decide +kernel
theorem dX11_harm_22 : decode cX11_harm 22 = .ok (.iconst (-1), 1) := by decide +kernel
theorem dX11_harm_23 : decode cX11_harm 23 = .ok (.if_icmp .ne 6, 3) := by decide +kernel
theorem dX11_harm_26 : decode cX11_harm 26 = .ok (.bipush (-103), 2) := by decide +kernel
theorem dX11_harm_28 : decode cX11_harm 28 = .ok (.ireturn, 1) := by decide +kernel
theorem dX11_harm_29 : decode cX11_harm 29 = .ok (.aload_n 0, 1) := by decide +kernel
theorem dX11_harm_30 : decode cX11_harm 30 = .ok (.getfield 28, 3) := by decide +kernel
theorem dX11_harm_33 : decode cX11_harm 33 = .ok (.iload_n 1, 1) := by decide +kernel
theorem dX11_harm_34 : decode cX11_harm 34 = .ok (.iload_n 2, 1) := by decide +kernel
theorem dX11_harm_35 : decode cX11_harm 35 = .ok (.invokevirtual 206, 3) := by decide +kernel
theorem dX11_harm_38 : decode cX11_harm 38 = .ok (.ifCond .eq 7, 3) := by decide +kernel
theorem dX11_harm_41 : decode cX11_harm 41 = .ok (.iload_n 3, 1) := by decide +kernel
theorem dX11_harm_42 : decode cX11_harm 42 = .ok (.goto 5, 3) := by decide +kernel
theorem dX11_harm_45 : decode cX11_harm 45 = .ok (.bipush (-104), 2) := by decide +kernel
theorem dX11_harm_47 : decode cX11_harm 47 = .ok (.ireturn, 1) := by decide +kernel
theorem dX11_season_0 : decode cX11_season 0 = .ok (.aload_n 0, 1) := by decide +kernel
theorem dX11_season_1 : decode cX11_season 1 = .ok (.invokevirtual 166, 3) := by decide +kernel
theorem dX11_season_4 : decode cX11_season 4 = .ok (.ifCond .eq 13, 3) := by decide +kernel
theorem dX11_season_7 : decode cX11_season 7 = .ok (.aload_n 0, 1) := by decide +kernel
theorem dX11_season_8 : decode cX11_season 8 = .ok (.getfield 28, 3) := by decide +kernel
theorem dX11_season_11 : decode cX11_season 11 = .ok (.invokevirtual 209, 3) := by decide +kernel
theorem dX11_season_14 : decode cX11_season 14 = .ok (.goto 5, 3) := by decide +kernel
theorem dX11_season_17 : decode cX11_season 17 = .ok (.bipush (-103), 2) := by decide +kernel
theorem dX11_season_19 : decode cX11_season 19 = .ok (.ireturn, 1) := by decide +kernel
theorem dX11_comeBy_0 : decode cX11_comeBy 0 = .ok (.iload_n 1, 1) := by decide +kernel
theorem dX11_comeBy_1 : decode cX11_comeBy 1 = .ok (.iload_n 2, 1) := by decide +kernel
theorem dX11_comeBy_2 : decode cX11_comeBy 2 = .ok (.invokestatic 199, 3) := by decide +kernel
theorem dX11_comeBy_5 : decode cX11_comeBy 5 = .ok (.ifCond .ne 6, 3) := by decide +kernel
theorem dX11_comeBy_8 : decode cX11_comeBy 8 = .ok (.bipush (-101), 2) := by decide +kernel
theorem dX11_comeBy_10 : decode cX11_comeBy 10 = .ok (.ireturn, 1) := by decide +kernel
theorem dX11_comeBy_11 : decode cX11_comeBy 11 = .ok (.iload_n 3, 1) := by decide +kernel
theorem dX11_comeBy_12 : decode cX11_comeBy 12 = .ok (.invokestatic 169, 3) := by decide +kernel
theorem dX11_comeBy_15 : decode cX11_comeBy 15 = .ok (.ifCond .ne 6, 3) := by decide +kernel
theorem dX11_comeBy_18 : decode cX11_comeBy 18 = .ok (.bipush (-102), 2) := by decide +kernel
theorem dX11_comeBy_20 : decode cX11_comeBy 20 = .ok (.ireturn, 1) := by decide +kernel
theorem dX11_comeBy_21 : decode cX11_comeBy 21 = .ok (.aload_n 0, 1) := by decide +kernel
theorem dX11_comeBy_22 : decode cX11_comeBy 22 = .ok (.invokevirtual 166, 3) := by decide +kernel
theorem dX11_comeBy_25 : decode cX11_comeBy 25 = .ok (.ifCond .eq 27, 3) := by decide +kernel
theorem dX11_comeBy_28 : decode cX11_comeBy 28 = .ok (.aload_n 0, 1) := by decide +kernel
theorem dX11_comeBy_29 : decode cX11_comeBy 29 = .ok (.getfield 28, 3) := by decide +kernel
theorem dX11_comeBy_32 : decode cX11_comeBy 32 = .ok (.getfield 141, 3) := by decide +kernel
theorem dX11_comeBy_35 : decode cX11_comeBy 35 = .ok (.iload_n 1, 1) := by decide +kernel
theorem dX11_comeBy_36 : decode cX11_comeBy 36 = .ok (.baload, 1) := by decide +kernel
theorem dX11_comeBy_37 : decode cX11_comeBy 37 = .ok (.ifCond .eq 15, 3) := by decide +kernel
theorem dX11_comeBy_40 : decode cX11_comeBy 40 = .ok (.aload_n 0, 1) := by decide +kernel
theorem dX11_comeBy_41 : decode cX11_comeBy 41 = .ok (.getfield 28, 3) := by decide +kernel
theorem dX11_comeBy_44 : decode cX11_comeBy 44 = .ok (.getfield 141, 3) := by decide +kernel
theorem dX11_comeBy_47 : decode cX11_comeBy 47 = .ok (.iload_n 2, 1) := by decide +kernel
theorem dX11_comeBy_48 : decode cX11_comeBy 48 = .ok (.baload, 1) := by decide +kernel
theorem dX11_comeBy_49 : decode cX11_comeBy 49 = .ok (.ifCond .ne 6, 3) := by decide +kernel
theorem dX11_comeBy_52 : decode cX11_comeBy 52 = .ok (.bipush (-103), 2) := by decide +kernel
theorem dX11_comeBy_54 : decode cX11_comeBy 54 = .ok (.ireturn, 1) := by decide +kernel
theorem dX11_comeBy_55 : decode cX11_comeBy 55 = .ok (.iconst (-1), 1) := by decide +kernel
theorem dX11_comeBy_56 : decode cX11_comeBy 56 = .ok (.istore 4, 2) := by decide +kernel
theorem dX11_comeBy_58 : decode cX11_comeBy 58 = .ok (.iconst (-1), 1) := by decide +kernel
theorem dX11_comeBy_59 : decode cX11_comeBy 59 = .ok (.istore 5, 2) := by decide +kernel
theorem dX11_comeBy_61 : decode cX11_comeBy 61 = .ok (.iconst 0, 1) := by decide +kernel
theorem dX11_comeBy_62 : decode cX11_comeBy 62 = .ok (.istore 6, 2) := by decide +kernel
theorem dX11_comeBy_64 : decode cX11_comeBy 64 = .ok (.iload 6, 2) := by decide +kernel
theorem dX11_comeBy_66 : decode cX11_comeBy 66 = .ok (.aload_n 0, 1) := by decide +kernel
theorem dX11_comeBy_67 : decode cX11_comeBy 67 = .ok (.getfield 19, 3) := by decide +kernel
theorem dX11_comeBy_70 : decode cX11_comeBy 70 = .ok (.getfield 95, 3) := by decide +kernel
theorem dX11_comeBy_73 : decode cX11_comeBy 73 = .ok (.if_icmp .ge 57, 3) := by decide +kernel
theorem dX11_comeBy_76 : decode cX11_comeBy 76 = .ok (.aload_n 0, 1) := by decide +kernel
theorem dX11_comeBy_77 : decode cX11_comeBy 77 = .ok (.iload 6, 2) := by decide +kernel
theorem dX11_comeBy_79 : decode cX11_comeBy 79 = .ok (.iload_n 1, 1) := by decide +kernel
theorem dX11_comeBy_80 : decode cX11_comeBy 80 = .ok (.iload_n 2, 1) := by decide +kernel
theorem dX11_comeBy_81 : decode cX11_comeBy 81 = .ok (.invokevirtual 212, 3) := by decide +kernel
theorem dX11_comeBy_84 : decode cX11_comeBy 84 = .ok (.aload_n 0, 1) := by decide +kernel
theorem dX11_comeBy_85 : decode cX11_comeBy 85 = .ok (.iload 6, 2) := by decide +kernel
theorem dX11_comeBy_87 : decode cX11_comeBy 87 = .ok (.iload_n 2, 1) := by decide +kernel
theorem dX11_comeBy_88 : decode cX11_comeBy 88 = .ok (.iload_n 1, 1) := by decide +kernel
theorem dX11_comeBy_89 : decode cX11_comeBy 89 = .ok (.invokevirtual 212, 3) := by decide +kernel
theorem dX11_comeBy_92 : decode cX11_comeBy 92 = .ok (.invokestatic 215, 3) := by decide +kernel
theorem dX11_comeBy_95 : decode cX11_comeBy 95 = .ok (.istore 7, 2) := by decide +kernel
theorem dX11_comeBy_97 : decode cX11_comeBy 97 = .ok (.iload 7, 2) := by decide +kernel
theorem dX11_comeBy_99 : decode cX11_comeBy 99 = .ok (.iconst (-1), 1) := by decide +kernel
theorem dX11_comeBy_100 : decode cX11_comeBy 100 = .ok (.if_icmp .eq 24, 3) := by decide +kernel
theorem dX11_comeBy_103 : decode cX11_comeBy 103 = .ok (.iload 5, 2) := by decide +kernel
theorem dX11_comeBy_105 : decode cX11_comeBy 105 = .ok (.iconst (-1), 1) := by decide +kernel
theorem dX11_comeBy_106 : decode cX11_comeBy 106 = .ok (.if_icmp .eq 10, 3) := by decide +kernel
theorem dX11_comeBy_109 : decode cX11_comeBy 109 = .ok (.iload 7, 2) := by decide +kernel
theorem dX11_comeBy_111 : decode cX11_comeBy 111 = .ok (.iload 5, 2) := by decide +kernel
theorem dX11_comeBy_113 : decode cX11_comeBy 113 = .ok (.if_icmp .ge 11, 3) := by decide +kernel
theorem dX11_comeBy_116 : decode cX11_comeBy 116 = .ok (.iload 7, 2) := by decide +kernel
theorem dX11_comeBy_118 : decode cX11_comeBy 118 = .ok (.istore 5, 2) := by decide +kernel
theorem dX11_comeBy_120 : decode cX11_comeBy 120 = .ok (.iload 6, 2) := by decide +kernel
theorem dX11_comeBy_122 : decode cX11_comeBy 122 = .ok (.istore 4, 2) := by decide +kernel
theorem dX11_comeBy_124 : decode cX11_comeBy 124 = .ok (.iinc 6 1, 3) := by decide +kernel
theorem dX11_comeBy_127 : decode cX11_comeBy 127 = .ok (.goto (-63), 3) := by decide +kernel
theorem dX11_comeBy_130 : decode cX11_comeBy 130 = .ok (.iload_n 3, 1) := by decide +kernel
theorem dX11_comeBy_131 : decode cX11_comeBy 131 = .ok (.ifCond .ne 8, 3) := by decide +kernel
theorem dX11_comeBy_134 : decode cX11_comeBy 134 = .ok (.iload 5, 2) := by decide +kernel
theorem dX11_comeBy_136 : decode cX11_comeBy 136 = .ok (.goto 5, 3) := by decide +kernel
theorem dX11_comeBy_139 : decode cX11_comeBy 139 = .ok (.iload 4, 2) := by decide +kernel
theorem dX11_comeBy_141 : decode cX11_comeBy 141 = .ok (.ireturn, 1) := by decide +kernel
theorem dX11_marry_0 : decode cX11_marry 0 = .ok (.iload_n 1, 1) := by decide +kernel
theorem dX11_marry_1 : decode cX11_marry 1 = .ok (.invokestatic 169, 3) := by decide +kernel
theorem dX11_marry_4 : decode cX11_marry 4 = .ok (.ifCond .ne 6, 3) := by decide +kernel
theorem dX11_marry_7 : decode cX11_marry 7 = .ok (.bipush (-102), 2) := by decide +kernel
theorem dX11_marry_9 : decode cX11_marry 9 = .ok (.ireturn, 1) := by decide +kernel
theorem dX11_marry_10 : decode cX11_marry 10 = .ok (.aload_n 0, 1) := by decide +kernel
theorem dX11_marry_11 : decode cX11_marry 11 = .ok (.invokevirtual 166, 3) := by decide +kernel
theorem dX11_marry_14 : decode cX11_marry 14 = .ok (.ifCond .ne 6, 3) := by decide +kernel
theorem dX11_marry_17 : decode cX11_marry 17 = .ok (.bipush (-103), 2) := by decide +kernel
theorem dX11_marry_19 : decode cX11_marry 19 = .ok (.ireturn, 1) := by decide +kernel
theorem dX11_marry_20 : decode cX11_marry 20 = .ok (.aload_n 0, 1) := by decide +kernel
theorem dX11_marry_21 : decode cX11_marry 21 = .ok (.getfield 41, 3) := by decide +kernel
theorem dX11_marry_24 : decode cX11_marry 24 = .ok (.aload_n 0, 1) := by decide +kernel
theorem dX11_marry_25 : decode cX11_marry 25 = .ok (.getfield 28, 3) := by decide +kernel
theorem dX11_marry_28 : decode cX11_marry 28 = .ok (.invokevirtual 218, 3) := by decide +kernel
theorem dX11_marry_31 : decode cX11_marry 31 = .ok (.iload_n 1, 1) := by decide +kernel
theorem dX11_marry_32 : decode cX11_marry 32 = .ok (.ifCond .ne 13, 3) := by decide +kernel
theorem dX11_marry_35 : decode cX11_marry 35 = .ok (.aload_n 0, 1) := by decide +kernel
theorem dX11_marry_36 : decode cX11_marry 36 = .ok (.getfield 41, 3) := by decide +kernel
theorem dX11_marry_39 : decode cX11_marry 39 = .ok (.getfield 222, 3) := by decide +kernel
theorem dX11_marry_42 : decode cX11_marry 42 = .ok (.goto 10, 3) := by decide +kernel
theorem dX11_marry_45 : decode cX11_marry 45 = .ok (.aload_n 0, 1) := by decide +kernel
theorem dX11_marry_46 : decode cX11_marry 46 = .ok (.getfield 41, 3) := by decide +kernel
theorem dX11_marry_49 : decode cX11_marry 49 = .ok (.getfield 225, 3) := by decide +kernel
theorem dX11_marry_52 : decode cX11_marry 52 = .ok (.ireturn, 1) := by decide +kernel
theorem dX11_wills_0 : decode cX11_wills 0 = .ok (.iload_n 2, 1) := by decide +kernel
theorem dX11_wills_1 : decode cX11_wills 1 = .ok (.invokestatic 131, 3) := by decide +kernel
theorem dX11_wills_4 : decode cX11_wills 4 = .ok (.ifCond .ne 6, 3) := by decide +kernel
theorem dX11_wills_7 : decode cX11_wills 7 = .ok (.bipush (-101), 2) := by decide +kernel
theorem dX11_wills_9 : decode cX11_wills 9 = .ok (.ireturn, 1) := by decide +kernel
theorem dX11_wills_10 : decode cX11_wills 10 = .ok (.iload_n 1, 1) := by decide +kernel
theorem dX11_wills_11 : decode cX11_wills 11 = .ok (.ifCond .lt 9, 3) := by decide +kernel
theorem dX11_wills_14 : decode cX11_wills 14 = .ok (.iload_n 1, 1) := by decide +kernel
theorem dX11_wills_15 : decode cX11_wills 15 = .ok (.bipush 64, 2) := by decide +kernel
theorem dX11_wills_17 : decode cX11_wills 17 = .ok (.if_icmp .lt 6, 3) := by decide +kernel
theorem dX11_wills_20 : decode cX11_wills 20 = .ok (.bipush (-102), 2) := by decide +kernel
theorem dX11_wills_22 : decode cX11_wills 22 = .ok (.ireturn, 1) := by decide +kernel
theorem dX11_wills_23 : decode cX11_wills 23 = .ok (.aload_n 0, 1) := by decide +kernel
theorem dX11_wills_24 : decode cX11_wills 24 = .ok (.invokevirtual 166, 3) := by decide +kernel
theorem dX11_wills_27 : decode cX11_wills 27 = .ok (.ifCond .ne 6, 3) := by decide +kernel
theorem dX11_wills_30 : decode cX11_wills 30 = .ok (.bipush (-103), 2) := by decide +kernel
theorem dX11_wills_32 : decode cX11_wills 32 = .ok (.ireturn, 1) := by decide +kernel
theorem dX11_wills_33 : decode cX11_wills 33 = .ok (.aload_n 0, 1) := by decide +kernel
theorem dX11_wills_34 : decode cX11_wills 34 = .ok (.getfield 35, 3) := by decide +kernel
theorem dX11_wills_37 : decode cX11_wills 37 = .ok (.aload_n 0, 1) := by decide +kernel
theorem dX11_wills_38 : decode cX11_wills 38 = .ok (.getfield 28, 3) := by decide +kernel
theorem dX11_wills_41 : decode cX11_wills 41 = .ok (.invokevirtual 228, 3) := by decide +kernel
theorem dX11_wills_44 : decode cX11_wills 44 = .ok (.iconst 0, 1) := by decide +kernel
theorem dX11_wills_45 : decode cX11_wills 45 = .ok (.istore_n 3, 1) := by decide +kernel
theorem dX11_wills_46 : decode cX11_wills 46 = .ok (.iload_n 3, 1) := by decide +kernel
theorem dX11_wills_47 : decode cX11_wills 47 = .ok (.bipush 6, 2) := by decide +kernel
theorem dX11_wills_49 : decode cX11_wills 49 = .ok (.if_icmp .ge 39, 3) := by decide +kernel
theorem dX11_wills_52 : decode cX11_wills 52 = .ok (.iload_n 1, 1) := by decide +kernel
theorem dX11_wills_53 : decode cX11_wills 53 = .ok (.iload_n 3, 1) := by decide +kernel
theorem dX11_wills_54 : decode cX11_wills 54 = .ok (.ishr, 1) := by decide +kernel
theorem dX11_wills_55 : decode cX11_wills 55 = .ok (.iconst 1, 1) := by decide +kernel
theorem dX11_wills_56 : decode cX11_wills 56 = .ok (.iand, 1) := by decide +kernel
theorem dX11_wills_57 : decode cX11_wills 57 = .ok (.iconst 1, 1) := by decide +kernel
theorem dX11_wills_58 : decode cX11_wills 58 = .ok (.if_icmp .ne 24, 3) := by decide +kernel
theorem dX11_wills_61 : decode cX11_wills 61 = .ok (.aload_n 0, 1) := by decide +kernel
theorem dX11_wills_62 : decode cX11_wills 62 = .ok (.getfield 35, 3) := by decide +kernel
theorem dX11_wills_65 : decode cX11_wills 65 = .ok (.getfield 141, 3) := by decide +kernel
theorem dX11_wills_68 : decode cX11_wills 68 = .ok (.iload_n 3, 1) := by decide +kernel
theorem dX11_wills_69 : decode cX11_wills 69 = .ok (.baload, 1) := by decide +kernel
theorem dX11_wills_70 : decode cX11_wills 70 = .ok (.ifCond .eq 12, 3) := by decide +kernel
theorem dX11_wills_73 : decode cX11_wills 73 = .ok (.aload_n 0, 1) := by decide +kernel
theorem dX11_wills_74 : decode cX11_wills 74 = .ok (.getfield 35, 3) := by decide +kernel
theorem dX11_wills_77 : decode cX11_wills 77 = .ok (.iload_n 3, 1) := by decide +kernel
theorem dX11_wills_78 : decode cX11_wills 78 = .ok (.invokevirtual 196, 3) := by decide +kernel
theorem dX11_wills_81 : decode cX11_wills 81 = .ok (.pop, 1) := by decide +kernel
theorem dX11_wills_82 : decode cX11_wills 82 = .ok (.iinc 3 1, 3) := by decide +kernel
theorem dX11_wills_85 : decode cX11_wills 85 = .ok (.goto (-39), 3) := by decide +kernel
theorem dX11_wills_88 : decode cX11_wills 88 = .ok (.aload_n 0, 1) := by decide +kernel
theorem dX11_wills_89 : decode cX11_wills 89 = .ok (.getfield 35, 3) := by decide +kernel
theorem dX11_wills_92 : decode cX11_wills 92 = .ok (.iload_n 2, 1) := by decide +kernel
theorem dX11_wills_93 : decode cX11_wills 93 = .ok (.invokevirtual 144, 3) := by decide +kernel
theorem dX11_wills_96 : decode cX11_wills 96 = .ok (.ireturn, 1) := by decide +kernel
theorem dX11_left_0 : decode cX11_left 0 = .ok (.iload_n 1, 1) := by decide +kernel
theorem dX11_left_1 : decode cX11_left 1 = .ok (.iconst 1, 1) := by decide +kernel
theorem dX11_left_2 : decode cX11_left 2 = .ok (.if_icmp .lt 25, 3) := by decide +kernel
theorem dX11_left_5 : decode cX11_left 5 = .ok (.iload_n 1, 1) := by decide +kernel
theorem dX11_left_6 : decode cX11_left 6 = .ok (.iconst 2, 1) := by decide +kernel
theorem dX11_left_7 : decode cX11_left 7 = .ok (.if_icmp .gt 20, 3) := by decide +kernel
theorem dX11_left_10 : decode cX11_left 10 = .ok (.iload_n 2, 1) := by decide +kernel
theorem dX11_left_11 : decode cX11_left 11 = .ok (.ifCond .lt 16, 3) := by decide +kernel
theorem dX11_left_14 : decode cX11_left 14 = .ok (.iload_n 2, 1) := by decide +kernel
theorem dX11_left_15 : decode cX11_left 15 = .ok (.bipush 8, 2) := by decide +kernel
theorem dX11_left_17 : decode cX11_left 17 = .ok (.if_icmp .gt 10, 3) := by decide +kernel
theorem dX11_left_20 : decode cX11_left 20 = .ok (.iload_n 3, 1) := by decide +kernel
theorem dX11_left_21 : decode cX11_left 21 = .ok (.invokestatic 169, 3) := by decide +kernel
theorem dX11_left_24 : decode cX11_left 24 = .ok (.ifCond .ne 7, 3) := by decide +kernel
theorem dX11_left_27 : decode cX11_left 27 = .ok (.ldc2_w 231, 3) := by decide +kernel
theorem dX11_left_30 : decode cX11_left 30 = .ok (.lreturn, 1) := by decide +kernel
theorem dX11_left_31 : decode cX11_left 31 = .ok (.aload_n 0, 1) := by decide +kernel
theorem dX11_left_32 : decode cX11_left 32 = .ok (.invokevirtual 166, 3) := by decide +kernel
theorem dX11_left_35 : decode cX11_left 35 = .ok (.ifCond .ne 7, 3) := by decide +kernel
theorem dX11_left_38 : decode cX11_left 38 = .ok (.ldc2_w 233, 3) := by decide +kernel
theorem dX11_left_41 : decode cX11_left 41 = .ok (.lreturn, 1) := by decide +kernel
theorem dX11_left_42 : decode cX11_left 42 = .ok (.aload_n 0, 1) := by decide +kernel
theorem dX11_left_43 : decode cX11_left 43 = .ok (.getfield 48, 3) := by decide +kernel
theorem dX11_left_46 : decode cX11_left 46 = .ok (.aload_n 0, 1) := by decide +kernel
theorem dX11_left_47 : decode cX11_left 47 = .ok (.getfield 28, 3) := by decide +kernel
theorem dX11_left_50 : decode cX11_left 50 = .ok (.iload_n 1, 1) := by decide +kernel
theorem dX11_left_51 : decode cX11_left 51 = .ok (.invokevirtual 235, 3) := by decide +kernel
theorem dX11_left_54 : decode cX11_left 54 = .ok (.iload_n 3, 1) := by decide +kernel
theorem dX11_left_55 : decode cX11_left 55 = .ok (.ifCond .ne 14, 3) := by decide +kernel
theorem dX11_left_58 : decode cX11_left 58 = .ok (.aload_n 0, 1) := by decide +kernel
theorem dX11_left_59 : decode cX11_left 59 = .ok (.getfield 48, 3) := by decide +kernel
theorem dX11_left_62 : decode cX11_left 62 = .ok (.iload_n 2, 1) := by decide +kernel
theorem dX11_left_63 : decode cX11_left 63 = .ok (.invokevirtual 239, 3) := by decide +kernel
theorem dX11_left_66 : decode cX11_left 66 = .ok (.goto 11, 3) := by decide +kernel
theorem dX11_left_69 : decode cX11_left 69 = .ok (.aload_n 0, 1) := by decide +kernel
theorem dX11_left_70 : decode cX11_left 70 = .ok (.getfield 48, 3) := by decide +kernel
theorem dX11_left_73 : decode cX11_left 73 = .ok (.iload_n 2, 1) := by decide +kernel
theorem dX11_left_74 : decode cX11_left 74 = .ok (.invokevirtual 243, 3) := by decide +kernel
theorem dX11_left_77 : decode cX11_left 77 = .ok (.lreturn, 1) := by decide +kernel
theorem dX11_register_0 : decode cX11_register 0 = .ok (.iload_n 1, 1) := by decide +kernel
theorem dX11_register_1 : decode cX11_register 1 = .ok (.iload_n 2, 1) := by decide +kernel
theorem dX11_register_2 : decode cX11_register 2 = .ok (.invokestatic 199, 3) := by decide +kernel
theorem dX11_register_5 : decode cX11_register 5 = .ok (.ifCond .ne 6, 3) := by decide +kernel
theorem dX11_register_8 : decode cX11_register 8 = .ok (.bipush (-101), 2) := by decide +kernel
theorem dX11_register_10 : decode cX11_register 10 = .ok (.ireturn, 1) := by decide +kernel
theorem dX11_register_11 : decode cX11_register 11 = .ok (.aload_n 0, 1) := by decide +kernel
theorem dX11_register_12 : decode cX11_register 12 = .ok (.getfield 28, 3) := by decide +kernel
theorem dX11_register_15 : decode cX11_register 15 = .ok (.iload_n 1, 1) := by decide +kernel
theorem dX11_register_16 : decode cX11_register 16 = .ok (.iload_n 2, 1) := by decide +kernel
theorem dX11_register_17 : decode cX11_register 17 = .ok (.invokevirtual 246, 3) := by decide +kernel
theorem dX11_register_20 : decode cX11_register 20 = .ok (.ifCond .eq 13, 3) := by decide +kernel
theorem dX11_register_23 : decode cX11_register 23 = .ok (.aload_n 0, 1) := by decide +kernel
theorem dX11_register_24 : decode cX11_register 24 = .ok (.getfield 28, 3) := by decide +kernel
theorem dX11_register_27 : decode cX11_register 27 = .ok (.getfield 249, 3) := by decide +kernel
theorem dX11_register_30 : decode cX11_register 30 = .ok (.goto 5, 3) := by decide +kernel
theorem dX11_register_33 : decode cX11_register 33 = .ok (.bipush (-104), 2) := by decide +kernel
theorem dX11_register_35 : decode cX11_register 35 = .ok (.ireturn, 1) := by decide +kernel
theorem dX11_forget_0 : decode cX11_forget 0 = .ok (.aload_n 0, 1) := by decide +kernel
theorem dX11_forget_1 : decode cX11_forget 1 = .ok (.getfield 28, 3) := by decide +kernel
theorem dX11_forget_4 : decode cX11_forget 4 = .ok (.getfield 249, 3) := by decide +kernel
theorem dX11_forget_7 : decode cX11_forget 7 = .ok (.istore_n 1, 1) := by decide +kernel
theorem dX11_forget_8 : decode cX11_forget 8 = .ok (.aload_n 0, 1) := by decide +kernel
theorem dX11_forget_9 : decode cX11_forget 9 = .ok (.getfield 28, 3) := by decide +kernel
theorem dX11_forget_12 : decode cX11_forget 12 = .ok (.iconst 0, 1) := by decide +kernel
theorem dX11_forget_13 : decode cX11_forget 13 = .ok (.putfield 249, 3) := by decide +kernel
theorem dX11_forget_16 : decode cX11_forget 16 = .ok (.iload_n 1, 1) := by decide +kernel
theorem dX11_forget_17 : decode cX11_forget 17 = .ok (.ireturn, 1) := by decide +kernel
theorem dX11_lapsed_0 : decode cX11_lapsed 0 = .ok (.iload_n 1, 1) := by decide +kernel
theorem dX11_lapsed_1 : decode cX11_lapsed 1 = .ok (.invokestatic 169, 3) := by decide +kernel
theorem dX11_lapsed_4 : decode cX11_lapsed 4 = .ok (.ifCond .ne 6, 3) := by decide +kernel
theorem dX11_lapsed_7 : decode cX11_lapsed 7 = .ok (.bipush (-102), 2) := by decide +kernel
theorem dX11_lapsed_9 : decode cX11_lapsed 9 = .ok (.ireturn, 1) := by decide +kernel
theorem dX11_lapsed_10 : decode cX11_lapsed 10 = .ok (.aload_n 0, 1) := by decide +kernel
theorem dX11_lapsed_11 : decode cX11_lapsed 11 = .ok (.invokevirtual 166, 3) := by decide +kernel
theorem dX11_lapsed_14 : decode cX11_lapsed 14 = .ok (.ifCond .ne 6, 3) := by decide +kernel
theorem dX11_lapsed_17 : decode cX11_lapsed 17 = .ok (.bipush (-103), 2) := by decide +kernel
theorem dX11_lapsed_19 : decode cX11_lapsed 19 = .ok (.ireturn, 1) := by decide +kernel
theorem dX11_lapsed_20 : decode cX11_lapsed 20 = .ok (.iconst 0, 1) := by decide +kernel
theorem dX11_lapsed_21 : decode cX11_lapsed 21 = .ok (.istore_n 2, 1) := by decide +kernel
theorem dX11_lapsed_22 : decode cX11_lapsed 22 = .ok (.iconst (-1), 1) := by decide +kernel
theorem dX11_lapsed_23 : decode cX11_lapsed 23 = .ok (.istore_n 3, 1) := by decide +kernel
theorem dX11_lapsed_24 : decode cX11_lapsed 24 = .ok (.iconst 0, 1) := by decide +kernel
theorem dX11_lapsed_25 : decode cX11_lapsed 25 = .ok (.istore 4, 2) := by decide +kernel
theorem dX11_lapsed_27 : decode cX11_lapsed 27 = .ok (.iload 4, 2) := by decide +kernel
theorem dX11_lapsed_29 : decode cX11_lapsed 29 = .ok (.bipush 6, 2) := by decide +kernel
theorem dX11_lapsed_31 : decode cX11_lapsed 31 = .ok (.if_icmp .ge 54, 3) := by decide +kernel
theorem dX11_lapsed_34 : decode cX11_lapsed 34 = .ok (.iload 4, 2) := by decide +kernel
theorem dX11_lapsed_36 : decode cX11_lapsed 36 = .ok (.iconst 1, 1) := by decide +kernel
theorem dX11_lapsed_37 : decode cX11_lapsed 37 = .ok (.iadd, 1) := by decide +kernel
theorem dX11_lapsed_38 : decode cX11_lapsed 38 = .ok (.istore 5, 2) := by decide +kernel
theorem dX11_lapsed_40 : decode cX11_lapsed 40 = .ok (.iload 5, 2) := by decide +kernel
theorem dX11_lapsed_42 : decode cX11_lapsed 42 = .ok (.bipush 6, 2) := by decide +kernel
theorem dX11_lapsed_44 : decode cX11_lapsed 44 = .ok (.if_icmp .ge 35, 3) := by decide +kernel
theorem dX11_lapsed_47 : decode cX11_lapsed 47 = .ok (.aload_n 0, 1) := by decide +kernel
theorem dX11_lapsed_48 : decode cX11_lapsed 48 = .ok (.getfield 28, 3) := by decide +kernel
theorem dX11_lapsed_51 : decode cX11_lapsed 51 = .ok (.iload 4, 2) := by decide +kernel
theorem dX11_lapsed_53 : decode cX11_lapsed 53 = .ok (.iload 5, 2) := by decide +kernel
theorem dX11_lapsed_55 : decode cX11_lapsed 55 = .ok (.invokevirtual 252, 3) := by decide +kernel
theorem dX11_lapsed_58 : decode cX11_lapsed 58 = .ok (.ifCond .eq 15, 3) := by decide +kernel
theorem dX11_lapsed_61 : decode cX11_lapsed 61 = .ok (.iinc 2 1, 3) := by decide +kernel
theorem dX11_lapsed_64 : decode cX11_lapsed 64 = .ok (.bipush 6, 2) := by decide +kernel
theorem dX11_lapsed_66 : decode cX11_lapsed 66 = .ok (.iload 4, 2) := by decide +kernel
theorem dX11_lapsed_68 : decode cX11_lapsed 68 = .ok (.imul, 1) := by decide +kernel
theorem dX11_lapsed_69 : decode cX11_lapsed 69 = .ok (.iload 5, 2) := by decide +kernel
theorem dX11_lapsed_71 : decode cX11_lapsed 71 = .ok (.iadd, 1) := by decide +kernel
theorem dX11_lapsed_72 : decode cX11_lapsed 72 = .ok (.istore_n 3, 1) := by decide +kernel
theorem dX11_lapsed_73 : decode cX11_lapsed 73 = .ok (.iinc 5 1, 3) := by decide +kernel
theorem dX11_lapsed_76 : decode cX11_lapsed 76 = .ok (.goto (-36), 3) := by decide +kernel
theorem dX11_lapsed_79 : decode cX11_lapsed 79 = .ok (.iinc 4 1, 3) := by decide +kernel
theorem dX11_lapsed_82 : decode cX11_lapsed 82 = .ok (.goto (-55), 3) := by decide +kernel
theorem dX11_lapsed_85 : decode cX11_lapsed 85 = .ok (.iload_n 1, 1) := by decide +kernel
theorem dX11_lapsed_86 : decode cX11_lapsed 86 = .ok (.ifCond .ne 5, 3) := by decide +kernel
theorem dX11_lapsed_89 : decode cX11_lapsed 89 = .ok (.iload_n 2, 1) := by decide +kernel
theorem dX11_lapsed_90 : decode cX11_lapsed 90 = .ok (.ireturn, 1) := by decide +kernel
theorem dX11_lapsed_91 : decode cX11_lapsed 91 = .ok (.iload_n 2, 1) := by decide +kernel
theorem dX11_lapsed_92 : decode cX11_lapsed 92 = .ok (.iconst 1, 1) := by decide +kernel
theorem dX11_lapsed_93 : decode cX11_lapsed 93 = .ok (.if_icmp .ne 7, 3) := by decide +kernel
theorem dX11_lapsed_96 : decode cX11_lapsed 96 = .ok (.iload_n 3, 1) := by decide +kernel
theorem dX11_lapsed_97 : decode cX11_lapsed 97 = .ok (.goto 4, 3) := by decide +kernel
theorem dX11_lapsed_100 : decode cX11_lapsed 100 = .ok (.iconst (-1), 1) := by decide +kernel
theorem dX11_lapsed_101 : decode cX11_lapsed 101 = .ok (.ireturn, 1) := by decide +kernel
theorem dX11_years_0 : decode cX11_years 0 = .ok (.iload_n 1, 1) := by decide +kernel
theorem dX11_years_1 : decode cX11_years 1 = .ok (.iconst 1, 1) := by decide +kernel
theorem dX11_years_2 : decode cX11_years 2 = .ok (.if_icmp .lt 22, 3) := by decide +kernel
theorem dX11_years_5 : decode cX11_years 5 = .ok (.iload_n 1, 1) := by decide +kernel
theorem dX11_years_6 : decode cX11_years 6 = .ok (.bipush 60, 2) := by decide +kernel
theorem dX11_years_8 : decode cX11_years 8 = .ok (.if_icmp .gt 16, 3) := by decide +kernel
theorem dX11_years_11 : decode cX11_years 11 = .ok (.iload_n 2, 1) := by decide +kernel
theorem dX11_years_12 : decode cX11_years 12 = .ok (.ifCond .lt 12, 3) := by decide +kernel
theorem dX11_years_15 : decode cX11_years 15 = .ok (.iload_n 3, 1) := by decide +kernel
theorem dX11_years_16 : decode cX11_years 16 = .ok (.ifCond .lt 8, 3) := by decide +kernel
theorem dX11_years_19 : decode cX11_years 19 = .ok (.iload_n 3, 1) := by decide +kernel
theorem dX11_years_20 : decode cX11_years 20 = .ok (.iconst 3, 1) := by decide +kernel
theorem dX11_years_21 : decode cX11_years 21 = .ok (.if_icmp .le 6, 3) := by decide +kernel
theorem dX11_years_24 : decode cX11_years 24 = .ok (.bipush (-102), 2) := by decide +kernel
theorem dX11_years_26 : decode cX11_years 26 = .ok (.ireturn, 1) := by decide +kernel
theorem dX11_years_27 : decode cX11_years 27 = .ok (.aload_n 0, 1) := by decide +kernel
theorem dX11_years_28 : decode cX11_years 28 = .ok (.invokevirtual 166, 3) := by decide +kernel
theorem dX11_years_31 : decode cX11_years 31 = .ok (.ifCond .ne 6, 3) := by decide +kernel
theorem dX11_years_34 : decode cX11_years 34 = .ok (.bipush (-103), 2) := by decide +kernel
theorem dX11_years_36 : decode cX11_years 36 = .ok (.ireturn, 1) := by decide +kernel
theorem dX11_years_37 : decode cX11_years 37 = .ok (.aload_n 0, 1) := by decide +kernel
theorem dX11_years_38 : decode cX11_years 38 = .ok (.getfield 35, 3) := by decide +kernel
theorem dX11_years_41 : decode cX11_years 41 = .ok (.aload_n 0, 1) := by decide +kernel
theorem dX11_years_42 : decode cX11_years 42 = .ok (.getfield 28, 3) := by decide +kernel
theorem dX11_years_45 : decode cX11_years 45 = .ok (.invokevirtual 228, 3) := by decide +kernel
theorem dX11_years_48 : decode cX11_years 48 = .ok (.aload_n 0, 1) := by decide +kernel
theorem dX11_years_49 : decode cX11_years 49 = .ok (.getfield 55, 3) := by decide +kernel
theorem dX11_years_52 : decode cX11_years 52 = .ok (.iload_n 2, 1) := by decide +kernel
theorem dX11_years_53 : decode cX11_years 53 = .ok (.putfield 255, 3) := by decide +kernel
theorem dX11_years_56 : decode cX11_years 56 = .ok (.iconst 0, 1) := by decide +kernel
theorem dX11_years_57 : decode cX11_years 57 = .ok (.istore 4, 2) := by decide +kernel
theorem dX11_years_59 : decode cX11_years 59 = .ok (.iload 4, 2) := by decide +kernel
theorem dX11_years_61 : decode cX11_years 61 = .ok (.iload_n 1, 1) := by decide +kernel
theorem dX11_years_62 : decode cX11_years 62 = .ok (.if_icmp .ge 13, 3) := by decide +kernel
theorem dX11_years_65 : decode cX11_years 65 = .ok (.aload_n 0, 1) := by decide +kernel
theorem dX11_years_66 : decode cX11_years 66 = .ok (.invokevirtual 258, 3) := by decide +kernel
theorem dX11_years_69 : decode cX11_years 69 = .ok (.iinc 4 1, 3) := by decide +kernel
theorem dX11_years_72 : decode cX11_years 72 = .ok (.goto (-13), 3) := by decide +kernel
theorem dX11_years_75 : decode cX11_years 75 = .ok (.iload_n 3, 1) := by decide +kernel
theorem dX11_years_76 : decode cX11_years 76 = .ok (.tableswitch 52 0 2 #[28, 36, 44], 28) := by decide +kernel
theorem dX11_years_104 : decode cX11_years 104 = .ok (.aload_n 0, 1) := by decide +kernel
theorem dX11_years_105 : decode cX11_years 105 = .ok (.getfield 35, 3) := by decide +kernel
theorem dX11_years_108 : decode cX11_years 108 = .ok (.invokevirtual 261, 3) := by decide +kernel
theorem dX11_years_111 : decode cX11_years 111 = .ok (.ireturn, 1) := by decide +kernel
theorem dX11_years_112 : decode cX11_years 112 = .ok (.aload_n 0, 1) := by decide +kernel
theorem dX11_years_113 : decode cX11_years 113 = .ok (.getfield 35, 3) := by decide +kernel
theorem dX11_years_116 : decode cX11_years 116 = .ok (.invokevirtual 264, 3) := by decide +kernel
theorem dX11_years_119 : decode cX11_years 119 = .ok (.ireturn, 1) := by decide +kernel
theorem dX11_years_120 : decode cX11_years 120 = .ok (.aload_n 0, 1) := by decide +kernel
theorem dX11_years_121 : decode cX11_years 121 = .ok (.getfield 35, 3) := by decide +kernel
theorem dX11_years_124 : decode cX11_years 124 = .ok (.invokevirtual 267, 3) := by decide +kernel
theorem dX11_years_127 : decode cX11_years 127 = .ok (.ireturn, 1) := by decide +kernel
theorem dX11_years_128 : decode cX11_years 128 = .ok (.aload_n 0, 1) := by decide +kernel
theorem dX11_years_129 : decode cX11_years 129 = .ok (.getfield 55, 3) := by decide +kernel
theorem dX11_years_132 : decode cX11_years 132 = .ok (.getfield 255, 3) := by decide +kernel
theorem dX11_years_135 : decode cX11_years 135 = .ok (.ireturn, 1) := by decide +kernel
theorem dX11_image_0 : decode cX11_image 0 = .ok (.aload_n 0, 1) := by decide +kernel
theorem dX11_image_1 : decode cX11_image 1 = .ok (.invokevirtual 166, 3) := by decide +kernel
theorem dX11_image_4 : decode cX11_image 4 = .ok (.ifCond .ne 6, 3) := by decide +kernel
theorem dX11_image_7 : decode cX11_image 7 = .ok (.bipush (-103), 2) := by decide +kernel
theorem dX11_image_9 : decode cX11_image 9 = .ok (.ireturn, 1) := by decide +kernel
theorem dX11_image_10 : decode cX11_image 10 = .ok (.aload_n 0, 1) := by decide +kernel
theorem dX11_image_11 : decode cX11_image 11 = .ok (.getfield 32, 3) := by decide +kernel
theorem dX11_image_14 : decode cX11_image 14 = .ok (.aload_n 0, 1) := by decide +kernel
theorem dX11_image_15 : decode cX11_image 15 = .ok (.getfield 28, 3) := by decide +kernel
theorem dX11_image_18 : decode cX11_image 18 = .ok (.invokevirtual 228, 3) := by decide +kernel
theorem dX11_image_21 : decode cX11_image 21 = .ok (.aload_n 0, 1) := by decide +kernel
theorem dX11_image_22 : decode cX11_image 22 = .ok (.iconst 1, 1) := by decide +kernel
theorem dX11_image_23 : decode cX11_image 23 = .ok (.putfield 59, 3) := by decide +kernel
theorem dX11_image_26 : decode cX11_image 26 = .ok (.aload_n 0, 1) := by decide +kernel
theorem dX11_image_27 : decode cX11_image 27 = .ok (.getfield 19, 3) := by decide +kernel
theorem dX11_image_30 : decode cX11_image 30 = .ok (.getfield 95, 3) := by decide +kernel
theorem dX11_image_33 : decode cX11_image 33 = .ok (.aload_n 0, 1) := by decide +kernel
theorem dX11_image_34 : decode cX11_image 34 = .ok (.getfield 28, 3) := by decide +kernel
theorem dX11_image_37 : decode cX11_image 37 = .ok (.invokevirtual 193, 3) := by decide +kernel
theorem dX11_image_40 : decode cX11_image 40 = .ok (.isub, 1) := by decide +kernel
theorem dX11_image_41 : decode cX11_image 41 = .ok (.ireturn, 1) := by decide +kernel
theorem dX11_restore_0 : decode cX11_restore 0 = .ok (.aload_n 0, 1) := by decide +kernel
theorem dX11_restore_1 : decode cX11_restore 1 = .ok (.getfield 59, 3) := by decide +kernel
theorem dX11_restore_4 : decode cX11_restore 4 = .ok (.ifCond .ne 6, 3) := by decide +kernel
theorem dX11_restore_7 : decode cX11_restore 7 = .ok (.bipush (-103), 2) := by decide +kernel
theorem dX11_restore_9 : decode cX11_restore 9 = .ok (.ireturn, 1) := by decide +kernel
theorem dX11_restore_10 : decode cX11_restore 10 = .ok (.aload_n 0, 1) := by decide +kernel
theorem dX11_restore_11 : decode cX11_restore 11 = .ok (.getfield 28, 3) := by decide +kernel
theorem dX11_restore_14 : decode cX11_restore 14 = .ok (.aload_n 0, 1) := by decide +kernel
theorem dX11_restore_15 : decode cX11_restore 15 = .ok (.getfield 32, 3) := by decide +kernel
theorem dX11_restore_18 : decode cX11_restore 18 = .ok (.invokevirtual 228, 3) := by decide +kernel
theorem dX11_restore_21 : decode cX11_restore 21 = .ok (.aload_n 0, 1) := by decide +kernel
theorem dX11_restore_22 : decode cX11_restore 22 = .ok (.getfield 19, 3) := by decide +kernel
theorem dX11_restore_25 : decode cX11_restore 25 = .ok (.getfield 95, 3) := by decide +kernel
theorem dX11_restore_28 : decode cX11_restore 28 = .ok (.aload_n 0, 1) := by decide +kernel
theorem dX11_restore_29 : decode cX11_restore 29 = .ok (.getfield 28, 3) := by decide +kernel
theorem dX11_restore_32 : decode cX11_restore 32 = .ok (.invokevirtual 193, 3) := by decide +kernel
theorem dX11_restore_35 : decode cX11_restore 35 = .ok (.isub, 1) := by decide +kernel
theorem dX11_restore_36 : decode cX11_restore 36 = .ok (.ireturn, 1) := by decide +kernel
theorem dX11_count_0 : decode cX11_count 0 = .ok (.iload_n 1, 1) := by decide +kernel
theorem dX11_count_1 : decode cX11_count 1 = .ok (.tableswitch 120 0 8 #[51, 59, 67, 75, 83, 91, 99, 107, 115], 51) := by decide +kernel
theorem dX11_count_52 : decode cX11_count 52 = .ok (.aload_n 0, 1) := by decide +kernel
theorem dX11_count_53 : decode cX11_count 53 = .ok (.getfield 19, 3) := by decide +kernel
theorem dX11_count_56 : decode cX11_count 56 = .ok (.getfield 95, 3) := by decide +kernel
theorem dX11_count_59 : decode cX11_count 59 = .ok (.ireturn, 1) := by decide +kernel
theorem dX11_count_60 : decode cX11_count 60 = .ok (.aload_n 0, 1) := by decide +kernel
theorem dX11_count_61 : decode cX11_count 61 = .ok (.getfield 28, 3) := by decide +kernel
theorem dX11_count_64 : decode cX11_count 64 = .ok (.invokevirtual 193, 3) := by decide +kernel
theorem dX11_count_67 : decode cX11_count 67 = .ok (.ireturn, 1) := by decide +kernel
theorem dX11_count_68 : decode cX11_count 68 = .ok (.aload_n 0, 1) := by decide +kernel
theorem dX11_count_69 : decode cX11_count 69 = .ok (.getfield 28, 3) := by decide +kernel
theorem dX11_count_72 : decode cX11_count 72 = .ok (.invokevirtual 261, 3) := by decide +kernel
theorem dX11_count_75 : decode cX11_count 75 = .ok (.ireturn, 1) := by decide +kernel
theorem dX11_count_76 : decode cX11_count 76 = .ok (.aload_n 0, 1) := by decide +kernel
theorem dX11_count_77 : decode cX11_count 77 = .ok (.getfield 28, 3) := by decide +kernel
theorem dX11_count_80 : decode cX11_count 80 = .ok (.invokevirtual 267, 3) := by decide +kernel
theorem dX11_count_83 : decode cX11_count 83 = .ok (.ireturn, 1) := by decide +kernel
theorem dX11_count_84 : decode cX11_count 84 = .ok (.aload_n 0, 1) := by decide +kernel
theorem dX11_count_85 : decode cX11_count 85 = .ok (.getfield 28, 3) := by decide +kernel
theorem dX11_count_88 : decode cX11_count 88 = .ok (.invokevirtual 270, 3) := by decide +kernel
theorem dX11_count_91 : decode cX11_count 91 = .ok (.ireturn, 1) := by decide +kernel
theorem dX11_count_92 : decode cX11_count 92 = .ok (.aload_n 0, 1) := by decide +kernel
theorem dX11_count_93 : decode cX11_count 93 = .ok (.getfield 28, 3) := by decide +kernel
theorem dX11_count_96 : decode cX11_count 96 = .ok (.getfield 156, 3) := by decide +kernel
theorem dX11_count_99 : decode cX11_count 99 = .ok (.ireturn, 1) := by decide +kernel
theorem dX11_count_100 : decode cX11_count 100 = .ok (.aload_n 0, 1) := by decide +kernel
theorem dX11_count_101 : decode cX11_count 101 = .ok (.getfield 28, 3) := by decide +kernel
theorem dX11_count_104 : decode cX11_count 104 = .ok (.getfield 249, 3) := by decide +kernel
theorem dX11_count_107 : decode cX11_count 107 = .ok (.ireturn, 1) := by decide +kernel
theorem dX11_count_108 : decode cX11_count 108 = .ok (.aload_n 0, 1) := by decide +kernel
theorem dX11_count_109 : decode cX11_count 109 = .ok (.getfield 10, 3) := by decide +kernel
theorem dX11_count_112 : decode cX11_count 112 = .ok (.getfield 71, 3) := by decide +kernel
theorem dX11_count_115 : decode cX11_count 115 = .ok (.ireturn, 1) := by decide +kernel
theorem dX11_count_116 : decode cX11_count 116 = .ok (.aload_n 0, 1) := by decide +kernel
theorem dX11_count_117 : decode cX11_count 117 = .ok (.getfield 63, 3) := by decide +kernel
theorem dX11_count_120 : decode cX11_count 120 = .ok (.ireturn, 1) := by decide +kernel
theorem dX11_count_121 : decode cX11_count 121 = .ok (.bipush (-102), 2) := by decide +kernel
theorem dX11_count_123 : decode cX11_count 123 = .ok (.ireturn, 1) := by decide +kernel
theorem dX11_digest_0 : decode cX11_digest 0 = .ok (.aload_n 0, 1) := by decide +kernel
theorem dX11_digest_1 : decode cX11_digest 1 = .ok (.ldc2_w 273, 3) := by decide +kernel
theorem dX11_digest_4 : decode cX11_digest 4 = .ok (.invokevirtual 275, 3) := by decide +kernel
theorem dX11_digest_7 : decode cX11_digest 7 = .ok (.lstore_n 1, 1) := by decide +kernel
theorem dX11_digest_8 : decode cX11_digest 8 = .ok (.aload_n 0, 1) := by decide +kernel
theorem dX11_digest_9 : decode cX11_digest 9 = .ok (.lload_n 1, 1) := by decide +kernel
theorem dX11_digest_10 : decode cX11_digest 10 = .ok (.invokevirtual 279, 3) := by decide +kernel
theorem dX11_digest_13 : decode cX11_digest 13 = .ok (.lstore_n 1, 1) := by decide +kernel
theorem dX11_digest_14 : decode cX11_digest 14 = .ok (.aload_n 0, 1) := by decide +kernel
theorem dX11_digest_15 : decode cX11_digest 15 = .ok (.lload_n 1, 1) := by decide +kernel
theorem dX11_digest_16 : decode cX11_digest 16 = .ok (.invokevirtual 282, 3) := by decide +kernel
theorem dX11_digest_19 : decode cX11_digest 19 = .ok (.lstore_n 1, 1) := by decide +kernel
theorem dX11_digest_20 : decode cX11_digest 20 = .ok (.aload_n 0, 1) := by decide +kernel
theorem dX11_digest_21 : decode cX11_digest 21 = .ok (.invokevirtual 166, 3) := by decide +kernel
theorem dX11_digest_24 : decode cX11_digest 24 = .ok (.ifCond .eq 47, 3) := by decide +kernel
theorem dX11_digest_27 : decode cX11_digest 27 = .ok (.lload_n 1, 1) := by decide +kernel
theorem dX11_digest_28 : decode cX11_digest 28 = .ok (.aload_n 0, 1) := by decide +kernel
theorem dX11_digest_29 : decode cX11_digest 29 = .ok (.iconst 0, 1) := by decide +kernel
theorem dX11_digest_30 : decode cX11_digest 30 = .ok (.invokevirtual 285, 3) := by decide +kernel
theorem dX11_digest_33 : decode cX11_digest 33 = .ok (.i2l, 1) := by decide +kernel
theorem dX11_digest_34 : decode cX11_digest 34 = .ok (.invokestatic 288, 3) := by decide +kernel
theorem dX11_digest_37 : decode cX11_digest 37 = .ok (.lstore_n 1, 1) := by decide +kernel
theorem dX11_digest_38 : decode cX11_digest 38 = .ok (.lload_n 1, 1) := by decide +kernel
theorem dX11_digest_39 : decode cX11_digest 39 = .ok (.aload_n 0, 1) := by decide +kernel
theorem dX11_digest_40 : decode cX11_digest 40 = .ok (.iconst 1, 1) := by decide +kernel
theorem dX11_digest_41 : decode cX11_digest 41 = .ok (.invokevirtual 285, 3) := by decide +kernel
theorem dX11_digest_44 : decode cX11_digest 44 = .ok (.i2l, 1) := by decide +kernel
theorem dX11_digest_45 : decode cX11_digest 45 = .ok (.invokestatic 288, 3) := by decide +kernel
theorem dX11_digest_48 : decode cX11_digest 48 = .ok (.lstore_n 1, 1) := by decide +kernel
theorem dX11_digest_49 : decode cX11_digest 49 = .ok (.lload_n 1, 1) := by decide +kernel
theorem dX11_digest_50 : decode cX11_digest 50 = .ok (.aload_n 0, 1) := by decide +kernel
theorem dX11_digest_51 : decode cX11_digest 51 = .ok (.iconst 0, 1) := by decide +kernel
theorem dX11_digest_52 : decode cX11_digest 52 = .ok (.invokevirtual 292, 3) := by decide +kernel
theorem dX11_digest_55 : decode cX11_digest 55 = .ok (.i2l, 1) := by decide +kernel
theorem dX11_digest_56 : decode cX11_digest 56 = .ok (.invokestatic 288, 3) := by decide +kernel
theorem dX11_digest_59 : decode cX11_digest 59 = .ok (.lstore_n 1, 1) := by decide +kernel
theorem dX11_digest_60 : decode cX11_digest 60 = .ok (.lload_n 1, 1) := by decide +kernel
theorem dX11_digest_61 : decode cX11_digest 61 = .ok (.aload_n 0, 1) := by decide +kernel
theorem dX11_digest_62 : decode cX11_digest 62 = .ok (.iconst 1, 1) := by decide +kernel
theorem dX11_digest_63 : decode cX11_digest 63 = .ok (.invokevirtual 292, 3) := by decide +kernel
theorem dX11_digest_66 : decode cX11_digest 66 = .ok (.i2l, 1) := by decide +kernel
theorem dX11_digest_67 : decode cX11_digest 67 = .ok (.invokestatic 288, 3) := by decide +kernel
theorem dX11_digest_70 : decode cX11_digest 70 = .ok (.lstore_n 1, 1) := by decide +kernel
theorem dX11_digest_71 : decode cX11_digest 71 = .ok (.iconst 0, 1) := by decide +kernel
theorem dX11_digest_72 : decode cX11_digest 72 = .ok (.istore_n 3, 1) := by decide +kernel
theorem dX11_digest_73 : decode cX11_digest 73 = .ok (.iload_n 3, 1) := by decide +kernel
theorem dX11_digest_74 : decode cX11_digest 74 = .ok (.aload_n 0, 1) := by decide +kernel
theorem dX11_digest_75 : decode cX11_digest 75 = .ok (.getfield 10, 3) := by decide +kernel
theorem dX11_digest_78 : decode cX11_digest 78 = .ok (.getfield 71, 3) := by decide +kernel
theorem dX11_digest_81 : decode cX11_digest 81 = .ok (.if_icmp .ge 23, 3) := by decide +kernel
theorem dX11_digest_84 : decode cX11_digest 84 = .ok (.lload_n 1, 1) := by decide +kernel
theorem dX11_digest_85 : decode cX11_digest 85 = .ok (.aload_n 0, 1) := by decide +kernel
theorem dX11_digest_86 : decode cX11_digest 86 = .ok (.getfield 10, 3) := by decide +kernel
theorem dX11_digest_89 : decode cX11_digest 89 = .ok (.iload_n 3, 1) := by decide +kernel
theorem dX11_digest_90 : decode cX11_digest 90 = .ok (.invokevirtual 295, 3) := by decide +kernel
theorem dX11_digest_93 : decode cX11_digest 93 = .ok (.i2l, 1) := by decide +kernel
theorem dX11_digest_94 : decode cX11_digest 94 = .ok (.invokestatic 288, 3) := by decide +kernel
theorem dX11_digest_97 : decode cX11_digest 97 = .ok (.lstore_n 1, 1) := by decide +kernel
theorem dX11_digest_98 : decode cX11_digest 98 = .ok (.iinc 3 1, 3) := by decide +kernel
theorem dX11_digest_101 : decode cX11_digest 101 = .ok (.goto (-28), 3) := by decide +kernel
theorem dX11_digest_104 : decode cX11_digest 104 = .ok (.iconst 0, 1) := by decide +kernel
theorem dX11_digest_105 : decode cX11_digest 105 = .ok (.istore_n 3, 1) := by decide +kernel
theorem dX11_digest_106 : decode cX11_digest 106 = .ok (.iload_n 3, 1) := by decide +kernel
theorem dX11_digest_107 : decode cX11_digest 107 = .ok (.bipush 8, 2) := by decide +kernel
theorem dX11_digest_109 : decode cX11_digest 109 = .ok (.if_icmp .gt 20, 3) := by decide +kernel
theorem dX11_digest_112 : decode cX11_digest 112 = .ok (.lload_n 1, 1) := by decide +kernel
theorem dX11_digest_113 : decode cX11_digest 113 = .ok (.aload_n 0, 1) := by decide +kernel
theorem dX11_digest_114 : decode cX11_digest 114 = .ok (.iload_n 3, 1) := by decide +kernel
theorem dX11_digest_115 : decode cX11_digest 115 = .ok (.invokevirtual 298, 3) := by decide +kernel
theorem dX11_digest_118 : decode cX11_digest 118 = .ok (.i2l, 1) := by decide +kernel
theorem dX11_digest_119 : decode cX11_digest 119 = .ok (.invokestatic 288, 3) := by decide +kernel
theorem dX11_digest_122 : decode cX11_digest 122 = .ok (.lstore_n 1, 1) := by decide +kernel
theorem dX11_digest_123 : decode cX11_digest 123 = .ok (.iinc 3 1, 3) := by decide +kernel
theorem dX11_digest_126 : decode cX11_digest 126 = .ok (.goto (-20), 3) := by decide +kernel
theorem dX11_digest_129 : decode cX11_digest 129 = .ok (.lload_n 1, 1) := by decide +kernel
theorem dX11_digest_130 : decode cX11_digest 130 = .ok (.lreturn, 1) := by decide +kernel
theorem dX11_fold_0 : decode cX11_fold 0 = .ok (.ldc2_w 301, 3) := by decide +kernel
theorem dX11_fold_3 : decode cX11_fold 3 = .ok (.lload_n 0, 1) := by decide +kernel
theorem dX11_fold_4 : decode cX11_fold 4 = .ok (.lmul, 1) := by decide +kernel
theorem dX11_fold_5 : decode cX11_fold 5 = .ok (.lload_n 2, 1) := by decide +kernel
theorem dX11_fold_6 : decode cX11_fold 6 = .ok (.ladd, 1) := by decide +kernel
theorem dX11_fold_7 : decode cX11_fold 7 = .ok (.lreturn, 1) := by decide +kernel
theorem dX11_foldFeuds_0 : decode cX11_foldFeuds 0 = .ok (.lload_n 1, 1) := by decide +kernel
theorem dX11_foldFeuds_1 : decode cX11_foldFeuds 1 = .ok (.lstore_n 3, 1) := by decide +kernel
theorem dX11_foldFeuds_2 : decode cX11_foldFeuds 2 = .ok (.iconst 0, 1) := by decide +kernel
theorem dX11_foldFeuds_3 : decode cX11_foldFeuds 3 = .ok (.istore 5, 2) := by decide +kernel
theorem dX11_foldFeuds_5 : decode cX11_foldFeuds 5 = .ok (.iload 5, 2) := by decide +kernel
theorem dX11_foldFeuds_7 : decode cX11_foldFeuds 7 = .ok (.aload_n 0, 1) := by decide +kernel
theorem dX11_foldFeuds_8 : decode cX11_foldFeuds 8 = .ok (.getfield 19, 3) := by decide +kernel
theorem dX11_foldFeuds_11 : decode cX11_foldFeuds 11 = .ok (.getfield 95, 3) := by decide +kernel
theorem dX11_foldFeuds_14 : decode cX11_foldFeuds 14 = .ok (.if_icmp .ge 39, 3) := by decide +kernel
theorem dX11_foldFeuds_17 : decode cX11_foldFeuds 17 = .ok (.iconst 0, 1) := by decide +kernel
theorem dX11_foldFeuds_18 : decode cX11_foldFeuds 18 = .ok (.istore 6, 2) := by decide +kernel
theorem dX11_foldFeuds_20 : decode cX11_foldFeuds 20 = .ok (.iload 6, 2) := by decide +kernel
theorem dX11_foldFeuds_22 : decode cX11_foldFeuds 22 = .ok (.bipush 8, 2) := by decide +kernel
theorem dX11_foldFeuds_24 : decode cX11_foldFeuds 24 = .ok (.if_icmp .gt 23, 3) := by decide +kernel
theorem dX11_foldFeuds_27 : decode cX11_foldFeuds 27 = .ok (.lload_n 3, 1) := by decide +kernel
theorem dX11_foldFeuds_28 : decode cX11_foldFeuds 28 = .ok (.aload_n 0, 1) := by decide +kernel
theorem dX11_foldFeuds_29 : decode cX11_foldFeuds 29 = .ok (.iload 5, 2) := by decide +kernel
theorem dX11_foldFeuds_31 : decode cX11_foldFeuds 31 = .ok (.iload 6, 2) := by decide +kernel
theorem dX11_foldFeuds_33 : decode cX11_foldFeuds 33 = .ok (.invokevirtual 303, 3) := by decide +kernel
theorem dX11_foldFeuds_36 : decode cX11_foldFeuds 36 = .ok (.i2l, 1) := by decide +kernel
theorem dX11_foldFeuds_37 : decode cX11_foldFeuds 37 = .ok (.invokestatic 288, 3) := by decide +kernel
theorem dX11_foldFeuds_40 : decode cX11_foldFeuds 40 = .ok (.lstore_n 3, 1) := by decide +kernel
theorem dX11_foldFeuds_41 : decode cX11_foldFeuds 41 = .ok (.iinc 6 1, 3) := by decide +kernel
theorem dX11_foldFeuds_44 : decode cX11_foldFeuds 44 = .ok (.goto (-24), 3) := by decide +kernel
theorem dX11_foldFeuds_47 : decode cX11_foldFeuds 47 = .ok (.iinc 5 1, 3) := by decide +kernel
theorem dX11_foldFeuds_50 : decode cX11_foldFeuds 50 = .ok (.goto (-45), 3) := by decide +kernel
theorem dX11_foldFeuds_53 : decode cX11_foldFeuds 53 = .ok (.lload_n 3, 1) := by decide +kernel
theorem dX11_foldFeuds_54 : decode cX11_foldFeuds 54 = .ok (.lreturn, 1) := by decide +kernel
theorem dX11_foldPeople_0 : decode cX11_foldPeople 0 = .ok (.lload_n 1, 1) := by decide +kernel
theorem dX11_foldPeople_1 : decode cX11_foldPeople 1 = .ok (.lstore_n 3, 1) := by decide +kernel
theorem dX11_foldPeople_2 : decode cX11_foldPeople 2 = .ok (.iconst 0, 1) := by decide +kernel
theorem dX11_foldPeople_3 : decode cX11_foldPeople 3 = .ok (.istore 5, 2) := by decide +kernel
theorem dX11_foldPeople_5 : decode cX11_foldPeople 5 = .ok (.iload 5, 2) := by decide +kernel
theorem dX11_foldPeople_7 : decode cX11_foldPeople 7 = .ok (.bipush 6, 2) := by decide +kernel
theorem dX11_foldPeople_9 : decode cX11_foldPeople 9 = .ok (.if_icmp .ge 38, 3) := by decide +kernel
theorem dX11_foldPeople_12 : decode cX11_foldPeople 12 = .ok (.iconst 0, 1) := by decide +kernel
theorem dX11_foldPeople_13 : decode cX11_foldPeople 13 = .ok (.istore 6, 2) := by decide +kernel
theorem dX11_foldPeople_15 : decode cX11_foldPeople 15 = .ok (.iload 6, 2) := by decide +kernel
theorem dX11_foldPeople_17 : decode cX11_foldPeople 17 = .ok (.iconst 5, 1) := by decide +kernel
theorem dX11_foldPeople_18 : decode cX11_foldPeople 18 = .ok (.if_icmp .gt 23, 3) := by decide +kernel
theorem dX11_foldPeople_21 : decode cX11_foldPeople 21 = .ok (.lload_n 3, 1) := by decide +kernel
theorem dX11_foldPeople_22 : decode cX11_foldPeople 22 = .ok (.aload_n 0, 1) := by decide +kernel
theorem dX11_foldPeople_23 : decode cX11_foldPeople 23 = .ok (.iload 5, 2) := by decide +kernel
theorem dX11_foldPeople_25 : decode cX11_foldPeople 25 = .ok (.iload 6, 2) := by decide +kernel
theorem dX11_foldPeople_27 : decode cX11_foldPeople 27 = .ok (.invokevirtual 306, 3) := by decide +kernel
theorem dX11_foldPeople_30 : decode cX11_foldPeople 30 = .ok (.i2l, 1) := by decide +kernel
theorem dX11_foldPeople_31 : decode cX11_foldPeople 31 = .ok (.invokestatic 288, 3) := by decide +kernel
theorem dX11_foldPeople_34 : decode cX11_foldPeople 34 = .ok (.lstore_n 3, 1) := by decide +kernel
theorem dX11_foldPeople_35 : decode cX11_foldPeople 35 = .ok (.iinc 6 1, 3) := by decide +kernel
theorem dX11_foldPeople_38 : decode cX11_foldPeople 38 = .ok (.goto (-23), 3) := by decide +kernel
theorem dX11_foldPeople_41 : decode cX11_foldPeople 41 = .ok (.iinc 5 1, 3) := by decide +kernel
theorem dX11_foldPeople_44 : decode cX11_foldPeople 44 = .ok (.goto (-39), 3) := by decide +kernel
theorem dX11_foldPeople_47 : decode cX11_foldPeople 47 = .ok (.lload_n 3, 1) := by decide +kernel
theorem dX11_foldPeople_48 : decode cX11_foldPeople 48 = .ok (.lreturn, 1) := by decide +kernel
theorem dX11_foldHarming_0 : decode cX11_foldHarming 0 = .ok (.lload_n 1, 1) := by decide +kernel
theorem dX11_foldHarming_1 : decode cX11_foldHarming 1 = .ok (.lstore_n 3, 1) := by decide +kernel
theorem dX11_foldHarming_2 : decode cX11_foldHarming 2 = .ok (.iconst 0, 1) := by decide +kernel
theorem dX11_foldHarming_3 : decode cX11_foldHarming 3 = .ok (.istore 5, 2) := by decide +kernel
theorem dX11_foldHarming_5 : decode cX11_foldHarming 5 = .ok (.iload 5, 2) := by decide +kernel
theorem dX11_foldHarming_7 : decode cX11_foldHarming 7 = .ok (.bipush 6, 2) := by decide +kernel
theorem dX11_foldHarming_9 : decode cX11_foldHarming 9 = .ok (.if_icmp .ge 46, 3) := by decide +kernel
theorem dX11_foldHarming_12 : decode cX11_foldHarming 12 = .ok (.iconst 0, 1) := by decide +kernel
theorem dX11_foldHarming_13 : decode cX11_foldHarming 13 = .ok (.istore 6, 2) := by decide +kernel
theorem dX11_foldHarming_15 : decode cX11_foldHarming 15 = .ok (.iload 6, 2) := by decide +kernel
theorem dX11_foldHarming_17 : decode cX11_foldHarming 17 = .ok (.bipush 6, 2) := by decide +kernel
theorem dX11_foldHarming_19 : decode cX11_foldHarming 19 = .ok (.if_icmp .ge 30, 3) := by decide +kernel
theorem dX11_foldHarming_22 : decode cX11_foldHarming 22 = .ok (.iload 5, 2) := by decide +kernel
theorem dX11_foldHarming_24 : decode cX11_foldHarming 24 = .ok (.iload 6, 2) := by decide +kernel
theorem dX11_foldHarming_26 : decode cX11_foldHarming 26 = .ok (.if_icmp .eq 17, 3) := by decide +kernel
theorem dX11_foldHarming_29 : decode cX11_foldHarming 29 = .ok (.lload_n 3, 1) := by decide +kernel
theorem dX11_foldHarming_30 : decode cX11_foldHarming 30 = .ok (.aload_n 0, 1) := by decide +kernel
theorem dX11_foldHarming_31 : decode cX11_foldHarming 31 = .ok (.iload 5, 2) := by decide +kernel
theorem dX11_foldHarming_33 : decode cX11_foldHarming 33 = .ok (.iload 6, 2) := by decide +kernel
theorem dX11_foldHarming_35 : decode cX11_foldHarming 35 = .ok (.invokevirtual 309, 3) := by decide +kernel
theorem dX11_foldHarming_38 : decode cX11_foldHarming 38 = .ok (.i2l, 1) := by decide +kernel
theorem dX11_foldHarming_39 : decode cX11_foldHarming 39 = .ok (.invokestatic 288, 3) := by decide +kernel
theorem dX11_foldHarming_42 : decode cX11_foldHarming 42 = .ok (.lstore_n 3, 1) := by decide +kernel
theorem dX11_foldHarming_43 : decode cX11_foldHarming 43 = .ok (.iinc 6 1, 3) := by decide +kernel
theorem dX11_foldHarming_46 : decode cX11_foldHarming 46 = .ok (.goto (-31), 3) := by decide +kernel
theorem dX11_foldHarming_49 : decode cX11_foldHarming 49 = .ok (.iinc 5 1, 3) := by decide +kernel
theorem dX11_foldHarming_52 : decode cX11_foldHarming 52 = .ok (.goto (-47), 3) := by decide +kernel
theorem dX11_foldHarming_55 : decode cX11_foldHarming 55 = .ok (.lload_n 3, 1) := by decide +kernel
theorem dX11_foldHarming_56 : decode cX11_foldHarming 56 = .ok (.lreturn, 1) := by decide +kernel
theorem dX11_hasList_0 : decode cX11_hasList 0 = .ok (.aload_n 0, 1) := by decide +kernel
theorem dX11_hasList_1 : decode cX11_hasList 1 = .ok (.getfield 19, 3) := by decide +kernel
theorem dX11_hasList_4 : decode cX11_hasList 4 = .ok (.getfield 95, 3) := by decide +kernel
theorem dX11_hasList_7 : decode cX11_hasList 7 = .ok (.ifCond .le 7, 3) := by decide +kernel
theorem dX11_hasList_10 : decode cX11_hasList 10 = .ok (.iconst 1, 1) := by decide +kernel
theorem dX11_hasList_11 : decode cX11_hasList 11 = .ok (.goto 4, 3) := by decide +kernel
theorem dX11_hasList_14 : decode cX11_hasList 14 = .ok (.iconst 0, 1) := by decide +kernel
theorem dX11_hasList_15 : decode cX11_hasList 15 = .ok (.ireturn, 1) := by decide +kernel
theorem dX11_isFeud_0 : decode cX11_isFeud 0 = .ok (.iload_n 1, 1) := by decide +kernel
theorem dX11_isFeud_1 : decode cX11_isFeud 1 = .ok (.ifCond .lt 18, 3) := by decide +kernel
theorem dX11_isFeud_4 : decode cX11_isFeud 4 = .ok (.iload_n 1, 1) := by decide +kernel
theorem dX11_isFeud_5 : decode cX11_isFeud 5 = .ok (.aload_n 0, 1) := by decide +kernel
theorem dX11_isFeud_6 : decode cX11_isFeud 6 = .ok (.getfield 19, 3) := by decide +kernel
theorem dX11_isFeud_9 : decode cX11_isFeud 9 = .ok (.getfield 95, 3) := by decide +kernel
theorem dX11_isFeud_12 : decode cX11_isFeud 12 = .ok (.if_icmp .ge 7, 3) := by decide +kernel
theorem dX11_isFeud_15 : decode cX11_isFeud 15 = .ok (.iconst 1, 1) := by decide +kernel
theorem dX11_isFeud_16 : decode cX11_isFeud 16 = .ok (.goto 4, 3) := by decide +kernel
theorem dX11_isFeud_19 : decode cX11_isFeud 19 = .ok (.iconst 0, 1) := by decide +kernel
theorem dX11_isFeud_20 : decode cX11_isFeud 20 = .ok (.ireturn, 1) := by decide +kernel
theorem dX11_isPerson_0 : decode cX11_isPerson 0 = .ok (.iload_n 0, 1) := by decide +kernel
theorem dX11_isPerson_1 : decode cX11_isPerson 1 = .ok (.ifCond .lt 13, 3) := by decide +kernel
theorem dX11_isPerson_4 : decode cX11_isPerson 4 = .ok (.iload_n 0, 1) := by decide +kernel
theorem dX11_isPerson_5 : decode cX11_isPerson 5 = .ok (.bipush 6, 2) := by decide +kernel
theorem dX11_isPerson_7 : decode cX11_isPerson 7 = .ok (.if_icmp .ge 7, 3) := by decide +kernel
theorem dX11_isPerson_10 : decode cX11_isPerson 10 = .ok (.iconst 1, 1) := by decide +kernel
theorem dX11_isPerson_11 : decode cX11_isPerson 11 = .ok (.goto 4, 3) := by decide +kernel
theorem dX11_isPerson_14 : decode cX11_isPerson 14 = .ok (.iconst 0, 1) := by decide +kernel
theorem dX11_isPerson_15 : decode cX11_isPerson 15 = .ok (.ireturn, 1) := by decide +kernel
theorem dX11_areTwo_0 : decode cX11_areTwo 0 = .ok (.iload_n 0, 1) := by decide +kernel
theorem dX11_areTwo_1 : decode cX11_areTwo 1 = .ok (.invokestatic 131, 3) := by decide +kernel
theorem dX11_areTwo_4 : decode cX11_areTwo 4 = .ok (.ifCond .eq 19, 3) := by decide +kernel
theorem dX11_areTwo_7 : decode cX11_areTwo 7 = .ok (.iload_n 1, 1) := by decide +kernel
theorem dX11_areTwo_8 : decode cX11_areTwo 8 = .ok (.invokestatic 131, 3) := by decide +kernel
theorem dX11_areTwo_11 : decode cX11_areTwo 11 = .ok (.ifCond .eq 12, 3) := by decide +kernel
theorem dX11_areTwo_14 : decode cX11_areTwo 14 = .ok (.iload_n 0, 1) := by decide +kernel
theorem dX11_areTwo_15 : decode cX11_areTwo 15 = .ok (.iload_n 1, 1) := by decide +kernel
theorem dX11_areTwo_16 : decode cX11_areTwo 16 = .ok (.if_icmp .eq 7, 3) := by decide +kernel
theorem dX11_areTwo_19 : decode cX11_areTwo 19 = .ok (.iconst 1, 1) := by decide +kernel
theorem dX11_areTwo_20 : decode cX11_areTwo 20 = .ok (.goto 4, 3) := by decide +kernel
theorem dX11_areTwo_23 : decode cX11_areTwo 23 = .ok (.iconst 0, 1) := by decide +kernel
theorem dX11_areTwo_24 : decode cX11_areTwo 24 = .ok (.ireturn, 1) := by decide +kernel
theorem dX11_isBit_0 : decode cX11_isBit 0 = .ok (.iload_n 0, 1) := by decide +kernel
theorem dX11_isBit_1 : decode cX11_isBit 1 = .ok (.ifCond .eq 8, 3) := by decide +kernel
theorem dX11_isBit_4 : decode cX11_isBit 4 = .ok (.iload_n 0, 1) := by decide +kernel
theorem dX11_isBit_5 : decode cX11_isBit 5 = .ok (.iconst 1, 1) := by decide +kernel
theorem dX11_isBit_6 : decode cX11_isBit 6 = .ok (.if_icmp .ne 7, 3) := by decide +kernel
theorem dX11_isBit_9 : decode cX11_isBit 9 = .ok (.iconst 1, 1) := by decide +kernel
theorem dX11_isBit_10 : decode cX11_isBit 10 = .ok (.goto 4, 3) := by decide +kernel
theorem dX11_isBit_13 : decode cX11_isBit 13 = .ok (.iconst 0, 1) := by decide +kernel
theorem dX11_isBit_14 : decode cX11_isBit 14 = .ok (.ireturn, 1) := by decide +kernel
theorem dX11_isOfKind_0 : decode cX11_isOfKind 0 = .ok (.iload_n 1, 1) := by decide +kernel
theorem dX11_isOfKind_1 : decode cX11_isOfKind 1 = .ok (.tableswitch 57 0 4 #[35, 37, 42, 47, 52], 35) := by decide +kernel
theorem dX11_isOfKind_36 : decode cX11_isOfKind 36 = .ok (.iconst 1, 1) := by decide +kernel
theorem dX11_isOfKind_37 : decode cX11_isOfKind 37 = .ok (.ireturn, 1) := by decide +kernel
theorem dX11_isOfKind_38 : decode cX11_isOfKind 38 = .ok (.aload_n 0, 1) := by decide +kernel
theorem dX11_isOfKind_39 : decode cX11_isOfKind 39 = .ok (.instanceof 312, 3) := by decide +kernel
theorem dX11_isOfKind_42 : decode cX11_isOfKind 42 = .ok (.ireturn, 1) := by decide +kernel
theorem dX11_isOfKind_43 : decode cX11_isOfKind 43 = .ok (.aload_n 0, 1) := by decide +kernel
theorem dX11_isOfKind_44 : decode cX11_isOfKind 44 = .ok (.instanceof 314, 3) := by decide +kernel
theorem dX11_isOfKind_47 : decode cX11_isOfKind 47 = .ok (.ireturn, 1) := by decide +kernel
theorem dX11_isOfKind_48 : decode cX11_isOfKind 48 = .ok (.aload_n 0, 1) := by decide +kernel
theorem dX11_isOfKind_49 : decode cX11_isOfKind 49 = .ok (.instanceof 316, 3) := by decide +kernel
theorem dX11_isOfKind_52 : decode cX11_isOfKind 52 = .ok (.ireturn, 1) := by decide +kernel
theorem dX11_isOfKind_53 : decode cX11_isOfKind 53 = .ok (.aload_n 0, 1) := by decide +kernel
theorem dX11_isOfKind_54 : decode cX11_isOfKind 54 = .ok (.instanceof 318, 3) := by decide +kernel
theorem dX11_isOfKind_57 : decode cX11_isOfKind 57 = .ok (.ireturn, 1) := by decide +kernel
theorem dX11_isOfKind_58 : decode cX11_isOfKind 58 = .ok (.iconst 0, 1) := by decide +kernel
theorem dX11_isOfKind_59 : decode cX11_isOfKind 59 = .ok (.ireturn, 1) := by decide +kernel
theorem dX11_times_0 : decode cX11_times 0 = .ok (.iconst 0, 1) := by decide +kernel
theorem dX11_times_1 : decode cX11_times 1 = .ok (.istore_n 3, 1) := by decide +kernel
theorem dX11_times_2 : decode cX11_times 2 = .ok (.iconst 0, 1) := by decide +kernel
theorem dX11_times_3 : decode cX11_times 3 = .ok (.istore 4, 2) := by decide +kernel
theorem dX11_times_5 : decode cX11_times 5 = .ok (.iload 4, 2) := by decide +kernel
theorem dX11_times_7 : decode cX11_times 7 = .ok (.iload_n 1, 1) := by decide +kernel
theorem dX11_times_8 : decode cX11_times 8 = .ok (.if_icmp .ge 27, 3) := by decide +kernel
theorem dX11_times_11 : decode cX11_times 11 = .ok (.iload 4, 2) := by decide +kernel
theorem dX11_times_13 : decode cX11_times 13 = .ok (.aload_n 0, 1) := by decide +kernel
theorem dX11_times_14 : decode cX11_times 14 = .ok (.arraylength, 1) := by decide +kernel
theorem dX11_times_15 : decode cX11_times 15 = .ok (.if_icmp .ge 20, 3) := by decide +kernel
theorem dX11_times_18 : decode cX11_times 18 = .ok (.aload_n 0, 1) := by decide +kernel
theorem dX11_times_19 : decode cX11_times 19 = .ok (.iload 4, 2) := by decide +kernel
theorem dX11_times_21 : decode cX11_times 21 = .ok (.iaload, 1) := by decide +kernel
theorem dX11_times_22 : decode cX11_times 22 = .ok (.iload_n 2, 1) := by decide +kernel
theorem dX11_times_23 : decode cX11_times 23 = .ok (.if_icmp .ne 6, 3) := by decide +kernel
theorem dX11_times_26 : decode cX11_times 26 = .ok (.iinc 3 1, 3) := by decide +kernel
theorem dX11_times_29 : decode cX11_times 29 = .ok (.iinc 4 1, 3) := by decide +kernel
theorem dX11_times_32 : decode cX11_times 32 = .ok (.goto (-27), 3) := by decide +kernel
theorem dX11_times_35 : decode cX11_times 35 = .ok (.iload_n 3, 1) := by decide +kernel
theorem dX11_times_36 : decode cX11_times 36 = .ok (.ireturn, 1) := by decide +kernel
theorem dX11_cheaper_0 : decode cX11_cheaper 0 = .ok (.iload_n 0, 1) := by decide +kernel
theorem dX11_cheaper_1 : decode cX11_cheaper 1 = .ok (.iconst (-1), 1) := by decide +kernel
theorem dX11_cheaper_2 : decode cX11_cheaper 2 = .ok (.if_icmp .ne 5, 3) := by decide +kernel
theorem dX11_cheaper_5 : decode cX11_cheaper 5 = .ok (.iload_n 1, 1) := by decide +kernel
theorem dX11_cheaper_6 : decode cX11_cheaper 6 = .ok (.ireturn, 1) := by decide +kernel
theorem dX11_cheaper_7 : decode cX11_cheaper 7 = .ok (.iload_n 1, 1) := by decide +kernel
theorem dX11_cheaper_8 : decode cX11_cheaper 8 = .ok (.iconst (-1), 1) := by decide +kernel
theorem dX11_cheaper_9 : decode cX11_cheaper 9 = .ok (.if_icmp .ne 7, 3) := by decide +kernel
theorem dX11_cheaper_12 : decode cX11_cheaper 12 = .ok (.iload_n 0, 1) := by decide +kernel
theorem dX11_cheaper_13 : decode cX11_cheaper 13 = .ok (.goto 8, 3) := by decide +kernel
theorem dX11_cheaper_16 : decode cX11_cheaper 16 = .ok (.iload_n 0, 1) := by decide +kernel
theorem dX11_cheaper_17 : decode cX11_cheaper 17 = .ok (.iload_n 1, 1) := by decide +kernel
theorem dX11_cheaper_18 : decode cX11_cheaper 18 = .ok (.invokestatic 320, 3) := by decide +kernel
theorem dX11_cheaper_21 : decode cX11_cheaper 21 = .ok (.ireturn, 1) := by decide +kernel
theorem dX11_costOfFeud_0 : decode cX11_costOfFeud 0 = .ok (.aload_n 0, 1) := by decide +kernel
theorem dX11_costOfFeud_1 : decode cX11_costOfFeud 1 = .ok (.getfield 35, 3) := by decide +kernel
theorem dX11_costOfFeud_4 : decode cX11_costOfFeud 4 = .ok (.aload_n 0, 1) := by decide +kernel
theorem dX11_costOfFeud_5 : decode cX11_costOfFeud 5 = .ok (.getfield 28, 3) := by decide +kernel
theorem dX11_costOfFeud_8 : decode cX11_costOfFeud 8 = .ok (.invokevirtual 228, 3) := by decide +kernel
theorem dX11_costOfFeud_11 : decode cX11_costOfFeud 11 = .ok (.aload_n 0, 1) := by decide +kernel
theorem dX11_costOfFeud_12 : decode cX11_costOfFeud 12 = .ok (.getfield 35, 3) := by decide +kernel
theorem dX11_costOfFeud_15 : decode cX11_costOfFeud 15 = .ok (.iload_n 2, 1) := by decide +kernel
theorem dX11_costOfFeud_16 : decode cX11_costOfFeud 16 = .ok (.iload_n 1, 1) := by decide +kernel
theorem dX11_costOfFeud_17 : decode cX11_costOfFeud 17 = .ok (.iconst 0, 1) := by decide +kernel
theorem dX11_costOfFeud_18 : decode cX11_costOfFeud 18 = .ok (.invokevirtual 325, 3) := by decide +kernel
theorem dX11_costOfFeud_21 : decode cX11_costOfFeud 21 = .ok (.istore 4, 2) := by decide +kernel
theorem dX11_costOfFeud_23 : decode cX11_costOfFeud 23 = .ok (.iload 4, 2) := by decide +kernel
theorem dX11_costOfFeud_25 : decode cX11_costOfFeud 25 = .ok (.iconst (-1), 1) := by decide +kernel
theorem dX11_costOfFeud_26 : decode cX11_costOfFeud 26 = .ok (.if_icmp .ne 5, 3) := by decide +kernel
theorem dX11_costOfFeud_29 : decode cX11_costOfFeud 29 = .ok (.iconst (-1), 1) := by decide +kernel
theorem dX11_costOfFeud_30 : decode cX11_costOfFeud 30 = .ok (.ireturn, 1) := by decide +kernel
theorem dX11_costOfFeud_31 : decode cX11_costOfFeud 31 = .ok (.aload_n 0, 1) := by decide +kernel
theorem dX11_costOfFeud_32 : decode cX11_costOfFeud 32 = .ok (.getfield 35, 3) := by decide +kernel
theorem dX11_costOfFeud_35 : decode cX11_costOfFeud 35 = .ok (.iload_n 3, 1) := by decide +kernel
theorem dX11_costOfFeud_36 : decode cX11_costOfFeud 36 = .ok (.iload_n 1, 1) := by decide +kernel
theorem dX11_costOfFeud_37 : decode cX11_costOfFeud 37 = .ok (.iconst 1, 1) := by decide +kernel
theorem dX11_costOfFeud_38 : decode cX11_costOfFeud 38 = .ok (.invokevirtual 325, 3) := by decide +kernel
theorem dX11_costOfFeud_41 : decode cX11_costOfFeud 41 = .ok (.istore 5, 2) := by decide +kernel
theorem dX11_costOfFeud_43 : decode cX11_costOfFeud 43 = .ok (.iload 5, 2) := by decide +kernel
theorem dX11_costOfFeud_45 : decode cX11_costOfFeud 45 = .ok (.iconst (-1), 1) := by decide +kernel
theorem dX11_costOfFeud_46 : decode cX11_costOfFeud 46 = .ok (.if_icmp .ne 7, 3) := by decide +kernel
theorem dX11_costOfFeud_49 : decode cX11_costOfFeud 49 = .ok (.iconst (-1), 1) := by decide +kernel
theorem dX11_costOfFeud_50 : decode cX11_costOfFeud 50 = .ok (.goto 8, 3) := by decide +kernel
theorem dX11_costOfFeud_53 : decode cX11_costOfFeud 53 = .ok (.iload 4, 2) := by decide +kernel
theorem dX11_costOfFeud_55 : decode cX11_costOfFeud 55 = .ok (.iload 5, 2) := by decide +kernel
theorem dX11_costOfFeud_57 : decode cX11_costOfFeud 57 = .ok (.iadd, 1) := by decide +kernel
theorem dX11_costOfFeud_58 : decode cX11_costOfFeud 58 = .ok (.ireturn, 1) := by decide +kernel
theorem dX11_liveYear_0 : decode cX11_liveYear 0 = .ok (.aload_n 0, 1) := by decide +kernel
theorem dX11_liveYear_1 : decode cX11_liveYear 1 = .ok (.getfield 55, 3) := by decide +kernel
theorem dX11_liveYear_4 : decode cX11_liveYear 4 = .ok (.bipush 6, 2) := by decide +kernel
theorem dX11_liveYear_6 : decode cX11_liveYear 6 = .ok (.invokevirtual 328, 3) := by decide +kernel
theorem dX11_liveYear_9 : decode cX11_liveYear 9 = .ok (.istore_n 1, 1) := by decide +kernel
theorem dX11_liveYear_10 : decode cX11_liveYear 10 = .ok (.aload_n 0, 1) := by decide +kernel
theorem dX11_liveYear_11 : decode cX11_liveYear 11 = .ok (.getfield 55, 3) := by decide +kernel
theorem dX11_liveYear_14 : decode cX11_liveYear 14 = .ok (.aload_n 0, 1) := by decide +kernel
theorem dX11_liveYear_15 : decode cX11_liveYear 15 = .ok (.getfield 19, 3) := by decide +kernel
theorem dX11_liveYear_18 : decode cX11_liveYear 18 = .ok (.getfield 95, 3) := by decide +kernel
theorem dX11_liveYear_21 : decode cX11_liveYear 21 = .ok (.invokevirtual 328, 3) := by decide +kernel
theorem dX11_liveYear_24 : decode cX11_liveYear 24 = .ok (.istore_n 2, 1) := by decide +kernel
theorem dX11_liveYear_25 : decode cX11_liveYear 25 = .ok (.aload_n 0, 1) := by decide +kernel
theorem dX11_liveYear_26 : decode cX11_liveYear 26 = .ok (.getfield 55, 3) := by decide +kernel
theorem dX11_liveYear_29 : decode cX11_liveYear 29 = .ok (.iconst 2, 1) := by decide +kernel
theorem dX11_liveYear_30 : decode cX11_liveYear 30 = .ok (.invokevirtual 328, 3) := by decide +kernel
theorem dX11_liveYear_33 : decode cX11_liveYear 33 = .ok (.istore_n 3, 1) := by decide +kernel
theorem dX11_liveYear_34 : decode cX11_liveYear 34 = .ok (.aload_n 0, 1) := by decide +kernel
theorem dX11_liveYear_35 : decode cX11_liveYear 35 = .ok (.getfield 35, 3) := by decide +kernel
theorem dX11_liveYear_38 : decode cX11_liveYear 38 = .ok (.iload_n 1, 1) := by decide +kernel
theorem dX11_liveYear_39 : decode cX11_liveYear 39 = .ok (.iload_n 2, 1) := by decide +kernel
theorem dX11_liveYear_40 : decode cX11_liveYear 40 = .ok (.iload_n 3, 1) := by decide +kernel
theorem dX11_liveYear_41 : decode cX11_liveYear 41 = .ok (.invokevirtual 172, 3) := by decide +kernel
theorem dX11_liveYear_44 : decode cX11_liveYear 44 = .ok (.ifCond .eq 14, 3) := by decide +kernel
theorem dX11_liveYear_47 : decode cX11_liveYear 47 = .ok (.aload_n 0, 1) := by decide +kernel
theorem dX11_liveYear_48 : decode cX11_liveYear 48 = .ok (.getfield 35, 3) := by decide +kernel
theorem dX11_liveYear_51 : decode cX11_liveYear 51 = .ok (.iload_n 1, 1) := by decide +kernel
theorem dX11_liveYear_52 : decode cX11_liveYear 52 = .ok (.iload_n 2, 1) := by decide +kernel
theorem dX11_liveYear_53 : decode cX11_liveYear 53 = .ok (.iload_n 3, 1) := by decide +kernel
theorem dX11_liveYear_54 : decode cX11_liveYear 54 = .ok (.invokevirtual 176, 3) := by decide +kernel
theorem dX11_liveYear_57 : decode cX11_liveYear 57 = .ok (.pop, 1) := by decide +kernel
theorem dX11_liveYear_58 : decode cX11_liveYear 58 = .ok (.aload_n 0, 1) := by decide +kernel
theorem dX11_liveYear_59 : decode cX11_liveYear 59 = .ok (.getfield 55, 3) := by decide +kernel
theorem dX11_liveYear_62 : decode cX11_liveYear 62 = .ok (.bipush 6, 2) := by decide +kernel
theorem dX11_liveYear_64 : decode cX11_liveYear 64 = .ok (.invokevirtual 328, 3) := by decide +kernel
theorem dX11_liveYear_67 : decode cX11_liveYear 67 = .ok (.istore 4, 2) := by decide +kernel
theorem dX11_liveYear_69 : decode cX11_liveYear 69 = .ok (.aload_n 0, 1) := by decide +kernel
theorem dX11_liveYear_70 : decode cX11_liveYear 70 = .ok (.getfield 35, 3) := by decide +kernel
theorem dX11_liveYear_73 : decode cX11_liveYear 73 = .ok (.getfield 141, 3) := by decide +kernel
theorem dX11_liveYear_76 : decode cX11_liveYear 76 = .ok (.iload 4, 2) := by decide +kernel
theorem dX11_liveYear_78 : decode cX11_liveYear 78 = .ok (.baload, 1) := by decide +kernel
theorem dX11_liveYear_79 : decode cX11_liveYear 79 = .ok (.ifCond .eq 24, 3) := by decide +kernel
theorem dX11_liveYear_82 : decode cX11_liveYear 82 = .ok (.aload_n 0, 1) := by decide +kernel
theorem dX11_liveYear_83 : decode cX11_liveYear 83 = .ok (.getfield 55, 3) := by decide +kernel
theorem dX11_liveYear_86 : decode cX11_liveYear 86 = .ok (.iconst 4, 1) := by decide +kernel
theorem dX11_liveYear_87 : decode cX11_liveYear 87 = .ok (.invokevirtual 328, 3) := by decide +kernel
theorem dX11_liveYear_90 : decode cX11_liveYear 90 = .ok (.ifCond .ne 13, 3) := by decide +kernel
theorem dX11_liveYear_93 : decode cX11_liveYear 93 = .ok (.aload_n 0, 1) := by decide +kernel
theorem dX11_liveYear_94 : decode cX11_liveYear 94 = .ok (.getfield 35, 3) := by decide +kernel
theorem dX11_liveYear_97 : decode cX11_liveYear 97 = .ok (.iload 4, 2) := by decide +kernel
theorem dX11_liveYear_99 : decode cX11_liveYear 99 = .ok (.invokevirtual 196, 3) := by decide +kernel
theorem dX11_liveYear_102 : decode cX11_liveYear 102 = .ok (.pop, 1) := by decide +kernel
theorem dX11_liveYear_103 : decode cX11_liveYear 103 = .ok (.aload_n 0, 1) := by decide +kernel
theorem dX11_liveYear_104 : decode cX11_liveYear 104 = .ok (.getfield 35, 3) := by decide +kernel
theorem dX11_liveYear_107 : decode cX11_liveYear 107 = .ok (.invokevirtual 209, 3) := by decide +kernel
theorem dX11_liveYear_110 : decode cX11_liveYear 110 = .ok (.pop, 1) := by decide +kernel
theorem dX11_liveYear_111 : decode cX11_liveYear 111 = .ok (.return_, 1) := by decide +kernel
theorem dX12_init_0 : decode cX12_init 0 = .ok (.aload_n 0, 1) := by decide +kernel
theorem dX12_init_1 : decode cX12_init 1 = .ok (.invokespecial 1, 3) := by decide +kernel
theorem dX12_init_4 : decode cX12_init 4 = .ok (.aload_n 0, 1) := by decide +kernel
theorem dX12_init_5 : decode cX12_init 5 = .ok (.bipush 40, 2) := by decide +kernel
theorem dX12_init_7 : decode cX12_init 7 = .ok (.newarray .int, 2) := by decide +kernel
theorem dX12_init_9 : decode cX12_init 9 = .ok (.putfield 7, 3) := by decide +kernel
theorem dX12_init_12 : decode cX12_init 12 = .ok (.aload_n 0, 1) := by decide +kernel
theorem dX12_init_13 : decode cX12_init 13 = .ok (.bipush 32, 2) := by decide +kernel
theorem dX12_init_15 : decode cX12_init 15 = .ok (.newarray .int, 2) := by decide +kernel
theorem dX12_init_17 : decode cX12_init 17 = .ok (.putfield 13, 3) := by decide +kernel
theorem dX12_init_20 : decode cX12_init 20 = .ok (.aload_n 0, 1) := by decide +kernel
theorem dX12_init_21 : decode cX12_init 21 = .ok (.bipush 56, 2) := by decide +kernel
theorem dX12_init_23 : decode cX12_init 23 = .ok (.newarray .int, 2) := by decide +kernel
theorem dX12_init_25 : decode cX12_init 25 = .ok (.putfield 16, 3) := by decide +kernel
theorem dX12_init_28 : decode cX12_init 28 = .ok (.aload_n 0, 1) := by decide +kernel
theorem dX12_init_29 : decode cX12_init 29 = .ok (.bipush 18, 2) := by decide +kernel
theorem dX12_init_31 : decode cX12_init 31 = .ok (.newarray .int, 2) := by decide +kernel
theorem dX12_init_33 : decode cX12_init 33 = .ok (.putfield 19, 3) := by decide +kernel
theorem dX12_init_36 : decode cX12_init 36 = .ok (.aload_n 0, 1) := by decide +kernel
theorem dX12_init_37 : decode cX12_init 37 = .ok (.bipush 24, 2) := by decide +kernel
theorem dX12_init_39 : decode cX12_init 39 = .ok (.newarray .int, 2) := by decide +kernel
theorem dX12_init_41 : decode cX12_init 41 = .ok (.putfield 22, 3) := by decide +kernel
theorem dX12_init_44 : decode cX12_init 44 = .ok (.aload_n 0, 1) := by decide +kernel
theorem dX12_init_45 : decode cX12_init 45 = .ok (.bipush 56, 2) := by decide +kernel
theorem dX12_init_47 : decode cX12_init 47 = .ok (.newarray .int, 2) := by decide +kernel
theorem dX12_init_49 : decode cX12_init 49 = .ok (.putfield 25, 3) := by decide +kernel
theorem dX12_init_52 : decode cX12_init 52 = .ok (.aload_n 0, 1) := by decide +kernel
theorem dX12_init_53 : decode cX12_init 53 = .ok (.bipush 18, 2) := by decide +kernel
theorem dX12_init_55 : decode cX12_init 55 = .ok (.newarray .int, 2) := by decide +kernel
theorem dX12_init_57 : decode cX12_init 57 = .ok (.putfield 28, 3) := by decide +kernel
theorem dX12_init_60 : decode cX12_init 60 = .ok (.aload_n 0, 1) := by decide +kernel
theorem dX12_init_61 : decode cX12_init 61 = .ok (.bipush 64, 2) := by decide +kernel
theorem dX12_init_63 : decode cX12_init 63 = .ok (.newarray .int, 2) := by decide +kernel
theorem dX12_init_65 : decode cX12_init 65 = .ok (.putfield 31, 3) := by decide +kernel
theorem dX12_init_68 : decode cX12_init 68 = .ok (.aload_n 0, 1) := by decide +kernel
theorem dX12_init_69 : decode cX12_init 69 = .ok (.bipush 10, 2) := by decide +kernel
theorem dX12_init_71 : decode cX12_init 71 = .ok (.newarray .long, 2) := by decide +kernel
theorem dX12_init_73 : decode cX12_init 73 = .ok (.putfield 34, 3) := by decide +kernel
theorem dX12_init_76 : decode cX12_init 76 = .ok (.aload_n 0, 1) := by decide +kernel
theorem dX12_init_77 : decode cX12_init 77 = .ok (.bipush 16, 2) := by decide +kernel
theorem dX12_init_79 : decode cX12_init 79 = .ok (.newarray .int, 2) := by decide +kernel
theorem dX12_init_81 : decode cX12_init 81 = .ok (.putfield 38, 3) := by decide +kernel
theorem dX12_init_84 : decode cX12_init 84 = .ok (.aload_n 0, 1) := by decide +kernel
theorem dX12_init_85 : decode cX12_init 85 = .ok (.bipush 56, 2) := by decide +kernel
theorem dX12_init_87 : decode cX12_init 87 = .ok (.newarray .int, 2) := by decide +kernel
theorem dX12_init_89 : decode cX12_init 89 = .ok (.putfield 41, 3) := by decide +kernel
theorem dX12_init_92 : decode cX12_init 92 = .ok (.aload_n 0, 1) := by decide +kernel
theorem dX12_init_93 : decode cX12_init 93 = .ok (.bipush 18, 2) := by decide +kernel
theorem dX12_init_95 : decode cX12_init 95 = .ok (.newarray .int, 2) := by decide +kernel
theorem dX12_init_97 : decode cX12_init 97 = .ok (.putfield 44, 3) := by decide +kernel
theorem dX12_init_100 : decode cX12_init 100 = .ok (.aload_n 0, 1) := by decide +kernel
theorem dX12_init_101 : decode cX12_init 101 = .ok (.bipush 24, 2) := by decide +kernel
theorem dX12_init_103 : decode cX12_init 103 = .ok (.newarray .int, 2) := by decide +kernel
theorem dX12_init_105 : decode cX12_init 105 = .ok (.putfield 47, 3) := by decide +kernel
theorem dX12_init_108 : decode cX12_init 108 = .ok (.aload_n 0, 1) := by decide +kernel
theorem dX12_init_109 : decode cX12_init 109 = .ok (.bipush 16, 2) := by decide +kernel
theorem dX12_init_111 : decode cX12_init 111 = .ok (.newarray .int, 2) := by decide +kernel
theorem dX12_init_113 : decode cX12_init 113 = .ok (.putfield 50, 3) := by decide +kernel
theorem dX12_init_116 : decode cX12_init 116 = .ok (.aload_n 0, 1) := by decide +kernel
theorem dX12_init_117 : decode cX12_init 117 = .ok (.iconst (-1), 1) := by decide +kernel
theorem dX12_init_118 : decode cX12_init 118 = .ok (.putfield 53, 3) := by decide +kernel
theorem dX12_init_121 : decode cX12_init 121 = .ok (.aload_n 0, 1) := by decide +kernel
theorem dX12_init_122 : decode cX12_init 122 = .ok (.invokevirtual 57, 3) := by decide +kernel
theorem dX12_init_125 : decode cX12_init 125 = .ok (.return_, 1) := by decide +kernel
theorem dX12_in_0 : decode cX12_in 0 = .ok (.lload_n 0, 1) := by decide +kernel
theorem dX12_in_1 : decode cX12_in 1 = .ok (.lload_n 2, 1) := by decide +kernel
theorem dX12_in_2 : decode cX12_in 2 = .ok (.lcmp, 1) := by decide +kernel
theorem dX12_in_3 : decode cX12_in 3 = .ok (.ifCond .lt 14, 3) := by decide +kernel
theorem dX12_in_6 : decode cX12_in 6 = .ok (.lload_n 0, 1) := by decide +kernel
theorem dX12_in_7 : decode cX12_in 7 = .ok (.lload 4, 2) := by decide +kernel
theorem dX12_in_9 : decode cX12_in 9 = .ok (.lcmp, 1) := by decide +kernel
theorem dX12_in_10 : decode cX12_in 10 = .ok (.ifCond .gt 7, 3) := by decide +kernel
theorem dX12_in_13 : decode cX12_in 13 = .ok (.iconst 1, 1) := by decide +kernel
theorem dX12_in_14 : decode cX12_in 14 = .ok (.goto 4, 3) := by decide +kernel
theorem dX12_in_17 : decode cX12_in 17 = .ok (.iconst 0, 1) := by decide +kernel
theorem dX12_in_18 : decode cX12_in 18 = .ok (.ireturn, 1) := by decide +kernel
theorem dX12_letter_0 : decode cX12_letter 0 = .ok (.iload_n 1, 1) := by decide +kernel
theorem dX12_letter_1 : decode cX12_letter 1 = .ok (.i2l, 1) := by decide +kernel
theorem dX12_letter_2 : decode cX12_letter 2 = .ok (.lconst 1, 1) := by decide +kernel
theorem dX12_letter_3 : decode cX12_letter 3 = .ok (.ldc2_w 60, 3) := by decide +kernel
theorem dX12_letter_6 : decode cX12_letter 6 = .ok (.invokestatic 62, 3) := by decide +kernel
theorem dX12_letter_9 : decode cX12_letter 9 = .ok (.ifCond .ne 6, 3) := by decide +kernel
theorem dX12_letter_12 : decode cX12_letter 12 = .ok (.bipush (-102), 2) := by decide +kernel
theorem dX12_letter_14 : decode cX12_letter 14 = .ok (.ireturn, 1) := by decide +kernel
theorem dX12_letter_15 : decode cX12_letter 15 = .ok (.aload_n 0, 1) := by decide +kernel
theorem dX12_letter_16 : decode cX12_letter 16 = .ok (.getfield 66, 3) := by decide +kernel
theorem dX12_letter_19 : decode cX12_letter 19 = .ok (.bipush 40, 2) := by decide +kernel
theorem dX12_letter_21 : decode cX12_letter 21 = .ok (.if_icmp .ne 6, 3) := by decide +kernel
theorem dX12_letter_24 : decode cX12_letter 24 = .ok (.bipush (-104), 2) := by decide +kernel
theorem dX12_letter_26 : decode cX12_letter 26 = .ok (.ireturn, 1) := by decide +kernel
theorem dX12_letter_27 : decode cX12_letter 27 = .ok (.aload_n 0, 1) := by decide +kernel
theorem dX12_letter_28 : decode cX12_letter 28 = .ok (.getfield 7, 3) := by decide +kernel
theorem dX12_letter_31 : decode cX12_letter 31 = .ok (.aload_n 0, 1) := by decide +kernel
theorem dX12_letter_32 : decode cX12_letter 32 = .ok (.getfield 66, 3) := by decide +kernel
theorem dX12_letter_35 : decode cX12_letter 35 = .ok (.iload_n 1, 1) := by decide +kernel
theorem dX12_letter_36 : decode cX12_letter 36 = .ok (.iastore, 1) := by decide +kernel
theorem dX12_letter_37 : decode cX12_letter 37 = .ok (.aload_n 0, 1) := by decide +kernel
theorem dX12_letter_38 : decode cX12_letter 38 = .ok (.dup, 1) := by decide +kernel
theorem dX12_letter_39 : decode cX12_letter 39 = .ok (.getfield 66, 3) := by decide +kernel
theorem dX12_letter_42 : decode cX12_letter 42 = .ok (.iconst 1, 1) := by decide +kernel
theorem dX12_letter_43 : decode cX12_letter 43 = .ok (.iadd, 1) := by decide +kernel
theorem dX12_letter_44 : decode cX12_letter 44 = .ok (.putfield 66, 3) := by decide +kernel
theorem dX12_letter_47 : decode cX12_letter 47 = .ok (.aload_n 0, 1) := by decide +kernel
theorem dX12_letter_48 : decode cX12_letter 48 = .ok (.getfield 66, 3) := by decide +kernel
theorem dX12_letter_51 : decode cX12_letter 51 = .ok (.ireturn, 1) := by decide +kernel
theorem dX12_blank_0 : decode cX12_blank 0 = .ok (.aload_n 0, 1) := by decide +kernel
theorem dX12_blank_1 : decode cX12_blank 1 = .ok (.getfield 66, 3) := by decide +kernel
theorem dX12_blank_4 : decode cX12_blank 4 = .ok (.istore_n 1, 1) := by decide +kernel
theorem dX12_blank_5 : decode cX12_blank 5 = .ok (.aload_n 0, 1) := by decide +kernel
theorem dX12_blank_6 : decode cX12_blank 6 = .ok (.iconst 0, 1) := by decide +kernel
theorem dX12_blank_7 : decode cX12_blank 7 = .ok (.putfield 66, 3) := by decide +kernel
theorem dX12_blank_10 : decode cX12_blank 10 = .ok (.iload_n 1, 1) := by decide +kernel
theorem dX12_blank_11 : decode cX12_blank 11 = .ok (.ireturn, 1) := by decide +kernel
theorem dX12_kindBy_0 : decode cX12_kindBy 0 = .ok (.iload_n 0, 1) := by decide +kernel
theorem dX12_kindBy_1 : decode cX12_kindBy 1 = .ok (.bipush 98, 2) := by decide +kernel
theorem dX12_kindBy_3 : decode cX12_kindBy 3 = .ok (.if_icmp .ne 7, 3) := by decide +kernel
theorem dX12_kindBy_6 : decode cX12_kindBy 6 = .ok (.iconst 1, 1) := by decide +kernel
theorem dX12_kindBy_7 : decode cX12_kindBy 7 = .ok (.goto 34, 3) := by decide +kernel
theorem dX12_kindBy_10 : decode cX12_kindBy 10 = .ok (.iload_n 0, 1) := by decide +kernel
theorem dX12_kindBy_11 : decode cX12_kindBy 11 = .ok (.bipush 106, 2) := by decide +kernel
theorem dX12_kindBy_13 : decode cX12_kindBy 13 = .ok (.if_icmp .ne 7, 3) := by decide +kernel
theorem dX12_kindBy_16 : decode cX12_kindBy 16 = .ok (.iconst 2, 1) := by decide +kernel
theorem dX12_kindBy_17 : decode cX12_kindBy 17 = .ok (.goto 24, 3) := by decide +kernel
theorem dX12_kindBy_20 : decode cX12_kindBy 20 = .ok (.iload_n 0, 1) := by decide +kernel
theorem dX12_kindBy_21 : decode cX12_kindBy 21 = .ok (.bipush 103, 2) := by decide +kernel
theorem dX12_kindBy_23 : decode cX12_kindBy 23 = .ok (.if_icmp .ne 7, 3) := by decide +kernel
theorem dX12_kindBy_26 : decode cX12_kindBy 26 = .ok (.iconst 3, 1) := by decide +kernel
theorem dX12_kindBy_27 : decode cX12_kindBy 27 = .ok (.goto 14, 3) := by decide +kernel
theorem dX12_kindBy_30 : decode cX12_kindBy 30 = .ok (.iload_n 0, 1) := by decide +kernel
theorem dX12_kindBy_31 : decode cX12_kindBy 31 = .ok (.bipush 112, 2) := by decide +kernel
theorem dX12_kindBy_33 : decode cX12_kindBy 33 = .ok (.if_icmp .ne 7, 3) := by decide +kernel
theorem dX12_kindBy_36 : decode cX12_kindBy 36 = .ok (.iconst 4, 1) := by decide +kernel
theorem dX12_kindBy_37 : decode cX12_kindBy 37 = .ok (.goto 4, 3) := by decide +kernel
theorem dX12_kindBy_40 : decode cX12_kindBy 40 = .ok (.iconst 0, 1) := by decide +kernel
theorem dX12_kindBy_41 : decode cX12_kindBy 41 = .ok (.ireturn, 1) := by decide +kernel
theorem dX12_go_0 : decode cX12_go 0 = .ok (.iload_n 1, 1) := by decide +kernel
theorem dX12_go_1 : decode cX12_go 1 = .ok (.bipush 48, 2) := by decide +kernel
theorem dX12_go_3 : decode cX12_go 3 = .ok (.isub, 1) := by decide +kernel
theorem dX12_go_4 : decode cX12_go 4 = .ok (.istore_n 2, 1) := by decide +kernel
theorem dX12_go_5 : decode cX12_go 5 = .ok (.iconst 4, 1) := by decide +kernel
theorem dX12_go_6 : decode cX12_go 6 = .ok (.aload_n 0, 1) := by decide +kernel
theorem dX12_go_7 : decode cX12_go 7 = .ok (.getfield 69, 3) := by decide +kernel
theorem dX12_go_10 : decode cX12_go 10 = .ok (.imul, 1) := by decide +kernel
theorem dX12_go_11 : decode cX12_go 11 = .ok (.istore_n 3, 1) := by decide +kernel
theorem dX12_go_12 : decode cX12_go 12 = .ok (.aload_n 0, 1) := by decide +kernel
theorem dX12_go_13 : decode cX12_go 13 = .ok (.getfield 72, 3) := by decide +kernel
theorem dX12_go_16 : decode cX12_go 16 = .ok (.iconst 4, 1) := by decide +kernel
theorem dX12_go_17 : decode cX12_go 17 = .ok (.if_icmp .ne 29, 3) := by decide +kernel
theorem dX12_go_20 : decode cX12_go 20 = .ok (.aload_n 0, 1) := by decide +kernel
theorem dX12_go_21 : decode cX12_go 21 = .ok (.iconst 0, 1) := by decide +kernel
theorem dX12_go_22 : decode cX12_go 22 = .ok (.putfield 72, 3) := by decide +kernel
theorem dX12_go_25 : decode cX12_go 25 = .ok (.iload_n 1, 1) := by decide +kernel
theorem dX12_go_26 : decode cX12_go 26 = .ok (.bipush 44, 2) := by decide +kernel
theorem dX12_go_28 : decode cX12_go 28 = .ok (.if_icmp .ne 16, 3) := by decide +kernel
theorem dX12_go_31 : decode cX12_go 31 = .ok (.aload_n 0, 1) := by decide +kernel
theorem dX12_go_32 : decode cX12_go 32 = .ok (.getfield 69, 3) := by decide +kernel
theorem dX12_go_35 : decode cX12_go 35 = .ok (.bipush 8, 2) := by decide +kernel
theorem dX12_go_37 : decode cX12_go 37 = .ok (.if_icmp .ge 7, 3) := by decide +kernel
theorem dX12_go_40 : decode cX12_go 40 = .ok (.iconst 1, 1) := by decide +kernel
theorem dX12_go_41 : decode cX12_go 41 = .ok (.goto 4, 3) := by decide +kernel
theorem dX12_go_44 : decode cX12_go 44 = .ok (.iconst 0, 1) := by decide +kernel
theorem dX12_go_45 : decode cX12_go 45 = .ok (.ireturn, 1) := by decide +kernel
theorem dX12_go_46 : decode cX12_go 46 = .ok (.aload_n 0, 1) := by decide +kernel
theorem dX12_go_47 : decode cX12_go 47 = .ok (.getfield 72, 3) := by decide +kernel
theorem dX12_go_50 : decode cX12_go 50 = .ok (.iconst 3, 1) := by decide +kernel
theorem dX12_go_51 : decode cX12_go 51 = .ok (.if_icmp .ne 37, 3) := by decide +kernel
theorem dX12_go_54 : decode cX12_go 54 = .ok (.aload_n 0, 1) := by decide +kernel
theorem dX12_go_55 : decode cX12_go 55 = .ok (.getfield 13, 3) := by decide +kernel
theorem dX12_go_58 : decode cX12_go 58 = .ok (.iload_n 3, 1) := by decide +kernel
theorem dX12_go_59 : decode cX12_go 59 = .ok (.iconst 3, 1) := by decide +kernel
theorem dX12_go_60 : decode cX12_go 60 = .ok (.iadd, 1) := by decide +kernel
theorem dX12_go_61 : decode cX12_go 61 = .ok (.iload_n 2, 1) := by decide +kernel
theorem dX12_go_62 : decode cX12_go 62 = .ok (.iastore, 1) := by decide +kernel
theorem dX12_go_63 : decode cX12_go 63 = .ok (.aload_n 0, 1) := by decide +kernel
theorem dX12_go_64 : decode cX12_go 64 = .ok (.dup, 1) := by decide +kernel
theorem dX12_go_65 : decode cX12_go 65 = .ok (.getfield 69, 3) := by decide +kernel
theorem dX12_go_68 : decode cX12_go 68 = .ok (.iconst 1, 1) := by decide +kernel
theorem dX12_go_69 : decode cX12_go 69 = .ok (.iadd, 1) := by decide +kernel
theorem dX12_go_70 : decode cX12_go 70 = .ok (.putfield 69, 3) := by decide +kernel
theorem dX12_go_73 : decode cX12_go 73 = .ok (.aload_n 0, 1) := by decide +kernel
theorem dX12_go_74 : decode cX12_go 74 = .ok (.iconst 4, 1) := by decide +kernel
theorem dX12_go_75 : decode cX12_go 75 = .ok (.putfield 72, 3) := by decide +kernel
theorem dX12_go_78 : decode cX12_go 78 = .ok (.iload_n 2, 1) := by decide +kernel
theorem dX12_go_79 : decode cX12_go 79 = .ok (.i2l, 1) := by decide +kernel
theorem dX12_go_80 : decode cX12_go 80 = .ok (.lconst 1, 1) := by decide +kernel
theorem dX12_go_81 : decode cX12_go 81 = .ok (.ldc2_w 75, 3) := by decide +kernel
theorem dX12_go_84 : decode cX12_go 84 = .ok (.invokestatic 62, 3) := by decide +kernel
theorem dX12_go_87 : decode cX12_go 87 = .ok (.ireturn, 1) := by decide +kernel
theorem dX12_go_88 : decode cX12_go 88 = .ok (.aload_n 0, 1) := by decide +kernel
theorem dX12_go_89 : decode cX12_go 89 = .ok (.getfield 72, 3) := by decide +kernel
theorem dX12_go_92 : decode cX12_go 92 = .ok (.iconst 2, 1) := by decide +kernel
theorem dX12_go_93 : decode cX12_go 93 = .ok (.if_icmp .ne 47, 3) := by decide +kernel
theorem dX12_go_96 : decode cX12_go 96 = .ok (.aload_n 0, 1) := by decide +kernel
theorem dX12_go_97 : decode cX12_go 97 = .ok (.getfield 13, 3) := by decide +kernel
theorem dX12_go_100 : decode cX12_go 100 = .ok (.iload_n 3, 1) := by decide +kernel
theorem dX12_go_101 : decode cX12_go 101 = .ok (.iconst 2, 1) := by decide +kernel
theorem dX12_go_102 : decode cX12_go 102 = .ok (.iadd, 1) := by decide +kernel
theorem dX12_go_103 : decode cX12_go 103 = .ok (.iload_n 2, 1) := by decide +kernel
theorem dX12_go_104 : decode cX12_go 104 = .ok (.iastore, 1) := by decide +kernel
theorem dX12_go_105 : decode cX12_go 105 = .ok (.aload_n 0, 1) := by decide +kernel
theorem dX12_go_106 : decode cX12_go 106 = .ok (.iconst 3, 1) := by decide +kernel
theorem dX12_go_107 : decode cX12_go 107 = .ok (.putfield 72, 3) := by decide +kernel
theorem dX12_go_110 : decode cX12_go 110 = .ok (.iload_n 2, 1) := by decide +kernel
theorem dX12_go_111 : decode cX12_go 111 = .ok (.i2l, 1) := by decide +kernel
theorem dX12_go_112 : decode cX12_go 112 = .ok (.lconst 0, 1) := by decide +kernel
theorem dX12_go_113 : decode cX12_go 113 = .ok (.ldc2_w 77, 3) := by decide +kernel
theorem dX12_go_116 : decode cX12_go 116 = .ok (.invokestatic 62, 3) := by decide +kernel
theorem dX12_go_119 : decode cX12_go 119 = .ok (.ifCond .eq 19, 3) := by decide +kernel
theorem dX12_go_122 : decode cX12_go 122 = .ok (.iload_n 2, 1) := by decide +kernel
theorem dX12_go_123 : decode cX12_go 123 = .ok (.aload_n 0, 1) := by decide +kernel
theorem dX12_go_124 : decode cX12_go 124 = .ok (.getfield 13, 3) := by decide +kernel
theorem dX12_go_127 : decode cX12_go 127 = .ok (.iload_n 3, 1) := by decide +kernel
theorem dX12_go_128 : decode cX12_go 128 = .ok (.iconst 1, 1) := by decide +kernel
theorem dX12_go_129 : decode cX12_go 129 = .ok (.iadd, 1) := by decide +kernel
theorem dX12_go_130 : decode cX12_go 130 = .ok (.iaload, 1) := by decide +kernel
theorem dX12_go_131 : decode cX12_go 131 = .ok (.if_icmp .eq 7, 3) := by decide +kernel
theorem dX12_go_134 : decode cX12_go 134 = .ok (.iconst 1, 1) := by decide +kernel
theorem dX12_go_135 : decode cX12_go 135 = .ok (.goto 4, 3) := by decide +kernel
theorem dX12_go_138 : decode cX12_go 138 = .ok (.iconst 0, 1) := by decide +kernel
theorem dX12_go_139 : decode cX12_go 139 = .ok (.ireturn, 1) := by decide +kernel
theorem dX12_go_140 : decode cX12_go 140 = .ok (.aload_n 0, 1) := by decide +kernel
theorem dX12_go_141 : decode cX12_go 141 = .ok (.getfield 72, 3) := by decide +kernel
theorem dX12_go_144 : decode cX12_go 144 = .ok (.ifCond .ne 29, 3) := by decide +kernel
theorem dX12_go_147 : decode cX12_go 147 = .ok (.aload_n 0, 1) := by decide +kernel
theorem dX12_go_148 : decode cX12_go 148 = .ok (.getfield 13, 3) := by decide +kernel
theorem dX12_go_151 : decode cX12_go 151 = .ok (.iload_n 3, 1) := by decide +kernel
theorem dX12_go_152 : decode cX12_go 152 = .ok (.iload_n 1, 1) := by decide +kernel
theorem dX12_go_153 : decode cX12_go 153 = .ok (.invokestatic 79, 3) := by decide +kernel
theorem dX12_go_156 : decode cX12_go 156 = .ok (.iastore, 1) := by decide +kernel
theorem dX12_go_157 : decode cX12_go 157 = .ok (.aload_n 0, 1) := by decide +kernel
theorem dX12_go_158 : decode cX12_go 158 = .ok (.getfield 13, 3) := by decide +kernel
theorem dX12_go_161 : decode cX12_go 161 = .ok (.iload_n 3, 1) := by decide +kernel
theorem dX12_go_162 : decode cX12_go 162 = .ok (.iaload, 1) := by decide +kernel
theorem dX12_go_163 : decode cX12_go 163 = .ok (.ifCond .le 10, 3) := by decide +kernel
theorem dX12_go_166 : decode cX12_go 166 = .ok (.aload_n 0, 1) := by decide +kernel
theorem dX12_go_167 : decode cX12_go 167 = .ok (.iconst 1, 1) := by decide +kernel
theorem dX12_go_168 : decode cX12_go 168 = .ok (.putfield 72, 3) := by decide +kernel
theorem dX12_go_171 : decode cX12_go 171 = .ok (.iconst 1, 1) := by decide +kernel
theorem dX12_go_172 : decode cX12_go 172 = .ok (.ireturn, 1) := by decide +kernel
theorem dX12_go_173 : decode cX12_go 173 = .ok (.aload_n 0, 1) := by decide +kernel
theorem dX12_go_174 : decode cX12_go 174 = .ok (.getfield 13, 3) := by decide +kernel
theorem dX12_go_177 : decode cX12_go 177 = .ok (.iload_n 3, 1) := by decide +kernel
theorem dX12_go_178 : decode cX12_go 178 = .ok (.iconst 1, 1) := by decide +kernel
theorem dX12_go_179 : decode cX12_go 179 = .ok (.iadd, 1) := by decide +kernel
theorem dX12_go_180 : decode cX12_go 180 = .ok (.iload_n 2, 1) := by decide +kernel
theorem dX12_go_181 : decode cX12_go 181 = .ok (.iastore, 1) := by decide +kernel
theorem dX12_go_182 : decode cX12_go 182 = .ok (.aload_n 0, 1) := by decide +kernel
theorem dX12_go_183 : decode cX12_go 183 = .ok (.iconst 2, 1) := by decide +kernel
theorem dX12_go_184 : decode cX12_go 184 = .ok (.putfield 72, 3) := by decide +kernel
theorem dX12_go_187 : decode cX12_go 187 = .ok (.iload_n 2, 1) := by decide +kernel
theorem dX12_go_188 : decode cX12_go 188 = .ok (.i2l, 1) := by decide +kernel
theorem dX12_go_189 : decode cX12_go 189 = .ok (.lconst 0, 1) := by decide +kernel
theorem dX12_go_190 : decode cX12_go 190 = .ok (.ldc2_w 77, 3) := by decide +kernel
theorem dX12_go_193 : decode cX12_go 193 = .ok (.invokestatic 62, 3) := by decide +kernel
theorem dX12_go_196 : decode cX12_go 196 = .ok (.ireturn, 1) := by decide +kernel
theorem dX12_faultOf_0 : decode cX12_faultOf 0 = .ok (.aload_n 0, 1) := by decide +kernel
theorem dX12_faultOf_1 : decode cX12_faultOf 1 = .ok (.iconst 0, 1) := by decide +kernel
theorem dX12_faultOf_2 : decode cX12_faultOf 2 = .ok (.putfield 69, 3) := by decide +kernel
theorem dX12_faultOf_5 : decode cX12_faultOf 5 = .ok (.aload_n 0, 1) := by decide +kernel
theorem dX12_faultOf_6 : decode cX12_faultOf 6 = .ok (.iconst 0, 1) := by decide +kernel
theorem dX12_faultOf_7 : decode cX12_faultOf 7 = .ok (.putfield 72, 3) := by decide +kernel
theorem dX12_faultOf_10 : decode cX12_faultOf 10 = .ok (.iconst 0, 1) := by decide +kernel
theorem dX12_faultOf_11 : decode cX12_faultOf 11 = .ok (.istore_n 1, 1) := by decide +kernel
theorem dX12_faultOf_12 : decode cX12_faultOf 12 = .ok (.iload_n 1, 1) := by decide +kernel
theorem dX12_faultOf_13 : decode cX12_faultOf 13 = .ok (.aload_n 0, 1) := by decide +kernel
theorem dX12_faultOf_14 : decode cX12_faultOf 14 = .ok (.getfield 66, 3) := by decide +kernel
theorem dX12_faultOf_17 : decode cX12_faultOf 17 = .ok (.if_icmp .ge 22, 3) := by decide +kernel
theorem dX12_faultOf_20 : decode cX12_faultOf 20 = .ok (.aload_n 0, 1) := by decide +kernel
theorem dX12_faultOf_21 : decode cX12_faultOf 21 = .ok (.aload_n 0, 1) := by decide +kernel
theorem dX12_faultOf_22 : decode cX12_faultOf 22 = .ok (.getfield 7, 3) := by decide +kernel
theorem dX12_faultOf_25 : decode cX12_faultOf 25 = .ok (.iload_n 1, 1) := by decide +kernel
theorem dX12_faultOf_26 : decode cX12_faultOf 26 = .ok (.iaload, 1) := by decide +kernel
theorem dX12_faultOf_27 : decode cX12_faultOf 27 = .ok (.invokevirtual 83, 3) := by decide +kernel
theorem dX12_faultOf_30 : decode cX12_faultOf 30 = .ok (.ifCond .eq 9, 3) := by decide +kernel
theorem dX12_faultOf_33 : decode cX12_faultOf 33 = .ok (.iinc 1 1, 3) := by decide +kernel
theorem dX12_faultOf_36 : decode cX12_faultOf 36 = .ok (.goto (-24), 3) := by decide +kernel
theorem dX12_faultOf_39 : decode cX12_faultOf 39 = .ok (.iload_n 1, 1) := by decide +kernel
theorem dX12_faultOf_40 : decode cX12_faultOf 40 = .ok (.ireturn, 1) := by decide +kernel
theorem dX12_fault_0 : decode cX12_fault 0 = .ok (.aload_n 0, 1) := by decide +kernel
theorem dX12_fault_1 : decode cX12_fault 1 = .ok (.invokevirtual 87, 3) := by decide +kernel
theorem dX12_fault_4 : decode cX12_fault 4 = .ok (.ireturn, 1) := by decide +kernel
theorem dX12_peopleAsAtFirst_0 : decode cX12_peopleAsAtFirst 0 = .ok (.iconst 0, 1) := by decide +kernel
theorem dX12_peopleAsAtFirst_1 : decode cX12_peopleAsAtFirst 1 = .ok (.istore_n 1, 1) := by decide +kernel
theorem dX12_peopleAsAtFirst_2 : decode cX12_peopleAsAtFirst 2 = .ok (.iload_n 1, 1) := by decide +kernel
end
section
theorem dX12_peopleAsAtFirst_3 : decode cX12_peopleAsAtFirst 3 = .ok (.bipush 6, 2) := by decide +kernel
theorem dX12_peopleAsAtFirst_5 : decode cX12_peopleAsAtFirst 5 = .ok (.if_icmp .ge 41, 3) := by decide +kernel
theorem dX12_peopleAsAtFirst_8 : decode cX12_peopleAsAtFirst 8 = .ok (.aload_n 0, 1) := by decide +kernel
theorem dX12_peopleAsAtFirst_9 : decode cX12_peopleAsAtFirst 9 = .ok (.getfield 19, 3) := by decide +kernel
theorem dX12_peopleAsAtFirst_12 : decode cX12_peopleAsAtFirst 12 = .ok (.iconst 3, 1) := by decide +kernel
theorem dX12_peopleAsAtFirst_13 : decode cX12_peopleAsAtFirst 13 = .ok (.iload_n 1, 1) := by decide +kernel
theorem dX12_peopleAsAtFirst_14 : decode cX12_peopleAsAtFirst 14 = .ok (.imul, 1) := by decide +kernel
theorem dX12_peopleAsAtFirst_15 : decode cX12_peopleAsAtFirst 15 = .ok (.bipush 9, 2) := by decide +kernel
theorem dX12_peopleAsAtFirst_17 : decode cX12_peopleAsAtFirst 17 = .ok (.iastore, 1) := by decide +kernel
theorem dX12_peopleAsAtFirst_18 : decode cX12_peopleAsAtFirst 18 = .ok (.aload_n 0, 1) := by decide +kernel
theorem dX12_peopleAsAtFirst_19 : decode cX12_peopleAsAtFirst 19 = .ok (.getfield 19, 3) := by decide +kernel
theorem dX12_peopleAsAtFirst_22 : decode cX12_peopleAsAtFirst 22 = .ok (.iconst 3, 1) := by decide +kernel
theorem dX12_peopleAsAtFirst_23 : decode cX12_peopleAsAtFirst 23 = .ok (.iload_n 1, 1) := by decide +kernel
theorem dX12_peopleAsAtFirst_24 : decode cX12_peopleAsAtFirst 24 = .ok (.imul, 1) := by decide +kernel
theorem dX12_peopleAsAtFirst_25 : decode cX12_peopleAsAtFirst 25 = .ok (.iconst 1, 1) := by decide +kernel
theorem dX12_peopleAsAtFirst_26 : decode cX12_peopleAsAtFirst 26 = .ok (.iadd, 1) := by decide +kernel
theorem dX12_peopleAsAtFirst_27 : decode cX12_peopleAsAtFirst 27 = .ok (.iconst (-1), 1) := by decide +kernel
theorem dX12_peopleAsAtFirst_28 : decode cX12_peopleAsAtFirst 28 = .ok (.iastore, 1) := by decide +kernel
theorem dX12_peopleAsAtFirst_29 : decode cX12_peopleAsAtFirst 29 = .ok (.aload_n 0, 1) := by decide +kernel
theorem dX12_peopleAsAtFirst_30 : decode cX12_peopleAsAtFirst 30 = .ok (.getfield 19, 3) := by decide +kernel
theorem dX12_peopleAsAtFirst_33 : decode cX12_peopleAsAtFirst 33 = .ok (.iconst 3, 1) := by decide +kernel
theorem dX12_peopleAsAtFirst_34 : decode cX12_peopleAsAtFirst 34 = .ok (.iload_n 1, 1) := by decide +kernel
theorem dX12_peopleAsAtFirst_35 : decode cX12_peopleAsAtFirst 35 = .ok (.imul, 1) := by decide +kernel
theorem dX12_peopleAsAtFirst_36 : decode cX12_peopleAsAtFirst 36 = .ok (.iconst 2, 1) := by decide +kernel
theorem dX12_peopleAsAtFirst_37 : decode cX12_peopleAsAtFirst 37 = .ok (.iadd, 1) := by decide +kernel
theorem dX12_peopleAsAtFirst_38 : decode cX12_peopleAsAtFirst 38 = .ok (.iconst 1, 1) := by decide +kernel
theorem dX12_peopleAsAtFirst_39 : decode cX12_peopleAsAtFirst 39 = .ok (.iastore, 1) := by decide +kernel
theorem dX12_peopleAsAtFirst_40 : decode cX12_peopleAsAtFirst 40 = .ok (.iinc 1 1, 3) := by decide +kernel
theorem dX12_peopleAsAtFirst_43 : decode cX12_peopleAsAtFirst 43 = .ok (.goto (-41), 3) := by decide +kernel
theorem dX12_peopleAsAtFirst_46 : decode cX12_peopleAsAtFirst 46 = .ok (.return_, 1) := by decide +kernel
theorem dX12_list_0 : decode cX12_list 0 = .ok (.aload_n 0, 1) := by decide +kernel
theorem dX12_list_1 : decode cX12_list 1 = .ok (.invokevirtual 87, 3) := by decide +kernel
theorem dX12_list_4 : decode cX12_list 4 = .ok (.aload_n 0, 1) := by decide +kernel
theorem dX12_list_5 : decode cX12_list 5 = .ok (.getfield 66, 3) := by decide +kernel
theorem dX12_list_8 : decode cX12_list 8 = .ok (.if_icmp .lt 11, 3) := by decide +kernel
theorem dX12_list_11 : decode cX12_list 11 = .ok (.aload_n 0, 1) := by decide +kernel
theorem dX12_list_12 : decode cX12_list 12 = .ok (.getfield 72, 3) := by decide +kernel
theorem dX12_list_15 : decode cX12_list 15 = .ok (.iconst 4, 1) := by decide +kernel
theorem dX12_list_16 : decode cX12_list 16 = .ok (.if_icmp .eq 6, 3) := by decide +kernel
theorem dX12_list_19 : decode cX12_list 19 = .ok (.bipush (-103), 2) := by decide +kernel
theorem dX12_list_21 : decode cX12_list 21 = .ok (.ireturn, 1) := by decide +kernel
theorem dX12_list_22 : decode cX12_list 22 = .ok (.iconst 0, 1) := by decide +kernel
theorem dX12_list_23 : decode cX12_list 23 = .ok (.istore_n 1, 1) := by decide +kernel
theorem dX12_list_24 : decode cX12_list 24 = .ok (.iload_n 1, 1) := by decide +kernel
theorem dX12_list_25 : decode cX12_list 25 = .ok (.aload_n 0, 1) := by decide +kernel
theorem dX12_list_26 : decode cX12_list 26 = .ok (.getfield 69, 3) := by decide +kernel
theorem dX12_list_29 : decode cX12_list 29 = .ok (.if_icmp .ge 110, 3) := by decide +kernel
theorem dX12_list_32 : decode cX12_list 32 = .ok (.bipush 7, 2) := by decide +kernel
theorem dX12_list_34 : decode cX12_list 34 = .ok (.iload_n 1, 1) := by decide +kernel
theorem dX12_list_35 : decode cX12_list 35 = .ok (.imul, 1) := by decide +kernel
theorem dX12_list_36 : decode cX12_list 36 = .ok (.istore_n 2, 1) := by decide +kernel
theorem dX12_list_37 : decode cX12_list 37 = .ok (.aload_n 0, 1) := by decide +kernel
theorem dX12_list_38 : decode cX12_list 38 = .ok (.getfield 16, 3) := by decide +kernel
theorem dX12_list_41 : decode cX12_list 41 = .ok (.iload_n 2, 1) := by decide +kernel
theorem dX12_list_42 : decode cX12_list 42 = .ok (.aload_n 0, 1) := by decide +kernel
theorem dX12_list_43 : decode cX12_list 43 = .ok (.getfield 13, 3) := by decide +kernel
theorem dX12_list_46 : decode cX12_list 46 = .ok (.iconst 4, 1) := by decide +kernel
theorem dX12_list_47 : decode cX12_list 47 = .ok (.iload_n 1, 1) := by decide +kernel
theorem dX12_list_48 : decode cX12_list 48 = .ok (.imul, 1) := by decide +kernel
theorem dX12_list_49 : decode cX12_list 49 = .ok (.iaload, 1) := by decide +kernel
theorem dX12_list_50 : decode cX12_list 50 = .ok (.iastore, 1) := by decide +kernel
theorem dX12_list_51 : decode cX12_list 51 = .ok (.aload_n 0, 1) := by decide +kernel
theorem dX12_list_52 : decode cX12_list 52 = .ok (.getfield 16, 3) := by decide +kernel
theorem dX12_list_55 : decode cX12_list 55 = .ok (.iload_n 2, 1) := by decide +kernel
theorem dX12_list_56 : decode cX12_list 56 = .ok (.iconst 1, 1) := by decide +kernel
theorem dX12_list_57 : decode cX12_list 57 = .ok (.iadd, 1) := by decide +kernel
theorem dX12_list_58 : decode cX12_list 58 = .ok (.aload_n 0, 1) := by decide +kernel
theorem dX12_list_59 : decode cX12_list 59 = .ok (.getfield 13, 3) := by decide +kernel
theorem dX12_list_62 : decode cX12_list 62 = .ok (.iconst 4, 1) := by decide +kernel
theorem dX12_list_63 : decode cX12_list 63 = .ok (.iload_n 1, 1) := by decide +kernel
theorem dX12_list_64 : decode cX12_list 64 = .ok (.imul, 1) := by decide +kernel
theorem dX12_list_65 : decode cX12_list 65 = .ok (.iconst 3, 1) := by decide +kernel
theorem dX12_list_66 : decode cX12_list 66 = .ok (.iadd, 1) := by decide +kernel
theorem dX12_list_67 : decode cX12_list 67 = .ok (.iaload, 1) := by decide +kernel
theorem dX12_list_68 : decode cX12_list 68 = .ok (.iastore, 1) := by decide +kernel
theorem dX12_list_69 : decode cX12_list 69 = .ok (.aload_n 0, 1) := by decide +kernel
theorem dX12_list_70 : decode cX12_list 70 = .ok (.getfield 16, 3) := by decide +kernel
theorem dX12_list_73 : decode cX12_list 73 = .ok (.iload_n 2, 1) := by decide +kernel
theorem dX12_list_74 : decode cX12_list 74 = .ok (.iconst 2, 1) := by decide +kernel
theorem dX12_list_75 : decode cX12_list 75 = .ok (.iadd, 1) := by decide +kernel
theorem dX12_list_76 : decode cX12_list 76 = .ok (.iconst 0, 1) := by decide +kernel
theorem dX12_list_77 : decode cX12_list 77 = .ok (.iastore, 1) := by decide +kernel
theorem dX12_list_78 : decode cX12_list 78 = .ok (.aload_n 0, 1) := by decide +kernel
theorem dX12_list_79 : decode cX12_list 79 = .ok (.getfield 16, 3) := by decide +kernel
theorem dX12_list_82 : decode cX12_list 82 = .ok (.iload_n 2, 1) := by decide +kernel
theorem dX12_list_83 : decode cX12_list 83 = .ok (.iconst 3, 1) := by decide +kernel
theorem dX12_list_84 : decode cX12_list 84 = .ok (.iadd, 1) := by decide +kernel
theorem dX12_list_85 : decode cX12_list 85 = .ok (.aload_n 0, 1) := by decide +kernel
theorem dX12_list_86 : decode cX12_list 86 = .ok (.getfield 13, 3) := by decide +kernel
theorem dX12_list_89 : decode cX12_list 89 = .ok (.iconst 4, 1) := by decide +kernel
theorem dX12_list_90 : decode cX12_list 90 = .ok (.iload_n 1, 1) := by decide +kernel
theorem dX12_list_91 : decode cX12_list 91 = .ok (.imul, 1) := by decide +kernel
theorem dX12_list_92 : decode cX12_list 92 = .ok (.iconst 1, 1) := by decide +kernel
theorem dX12_list_93 : decode cX12_list 93 = .ok (.iadd, 1) := by decide +kernel
theorem dX12_list_94 : decode cX12_list 94 = .ok (.iaload, 1) := by decide +kernel
theorem dX12_list_95 : decode cX12_list 95 = .ok (.iastore, 1) := by decide +kernel
theorem dX12_list_96 : decode cX12_list 96 = .ok (.aload_n 0, 1) := by decide +kernel
theorem dX12_list_97 : decode cX12_list 97 = .ok (.getfield 16, 3) := by decide +kernel
theorem dX12_list_100 : decode cX12_list 100 = .ok (.iload_n 2, 1) := by decide +kernel
theorem dX12_list_101 : decode cX12_list 101 = .ok (.iconst 4, 1) := by decide +kernel
theorem dX12_list_102 : decode cX12_list 102 = .ok (.iadd, 1) := by decide +kernel
theorem dX12_list_103 : decode cX12_list 103 = .ok (.aload_n 0, 1) := by decide +kernel
theorem dX12_list_104 : decode cX12_list 104 = .ok (.getfield 13, 3) := by decide +kernel
theorem dX12_list_107 : decode cX12_list 107 = .ok (.iconst 4, 1) := by decide +kernel
theorem dX12_list_108 : decode cX12_list 108 = .ok (.iload_n 1, 1) := by decide +kernel
theorem dX12_list_109 : decode cX12_list 109 = .ok (.imul, 1) := by decide +kernel
theorem dX12_list_110 : decode cX12_list 110 = .ok (.iconst 2, 1) := by decide +kernel
theorem dX12_list_111 : decode cX12_list 111 = .ok (.iadd, 1) := by decide +kernel
theorem dX12_list_112 : decode cX12_list 112 = .ok (.iaload, 1) := by decide +kernel
theorem dX12_list_113 : decode cX12_list 113 = .ok (.iastore, 1) := by decide +kernel
theorem dX12_list_114 : decode cX12_list 114 = .ok (.aload_n 0, 1) := by decide +kernel
theorem dX12_list_115 : decode cX12_list 115 = .ok (.getfield 16, 3) := by decide +kernel
theorem dX12_list_118 : decode cX12_list 118 = .ok (.iload_n 2, 1) := by decide +kernel
theorem dX12_list_119 : decode cX12_list 119 = .ok (.iconst 5, 1) := by decide +kernel
theorem dX12_list_120 : decode cX12_list 120 = .ok (.iadd, 1) := by decide +kernel
theorem dX12_list_121 : decode cX12_list 121 = .ok (.iconst (-1), 1) := by decide +kernel
theorem dX12_list_122 : decode cX12_list 122 = .ok (.iastore, 1) := by decide +kernel
theorem dX12_list_123 : decode cX12_list 123 = .ok (.aload_n 0, 1) := by decide +kernel
theorem dX12_list_124 : decode cX12_list 124 = .ok (.getfield 16, 3) := by decide +kernel
theorem dX12_list_127 : decode cX12_list 127 = .ok (.iload_n 2, 1) := by decide +kernel
theorem dX12_list_128 : decode cX12_list 128 = .ok (.bipush 6, 2) := by decide +kernel
theorem dX12_list_130 : decode cX12_list 130 = .ok (.iadd, 1) := by decide +kernel
theorem dX12_list_131 : decode cX12_list 131 = .ok (.iconst (-1), 1) := by decide +kernel
theorem dX12_list_132 : decode cX12_list 132 = .ok (.iastore, 1) := by decide +kernel
theorem dX12_list_133 : decode cX12_list 133 = .ok (.iinc 1 1, 3) := by decide +kernel
theorem dX12_list_136 : decode cX12_list 136 = .ok (.goto (-112), 3) := by decide +kernel
theorem dX12_list_139 : decode cX12_list 139 = .ok (.aload_n 0, 1) := by decide +kernel
theorem dX12_list_140 : decode cX12_list 140 = .ok (.aload_n 0, 1) := by decide +kernel
theorem dX12_list_141 : decode cX12_list 141 = .ok (.getfield 69, 3) := by decide +kernel
theorem dX12_list_144 : decode cX12_list 144 = .ok (.putfield 91, 3) := by decide +kernel
theorem dX12_list_147 : decode cX12_list 147 = .ok (.aload_n 0, 1) := by decide +kernel
theorem dX12_list_148 : decode cX12_list 148 = .ok (.invokevirtual 57, 3) := by decide +kernel
theorem dX12_list_151 : decode cX12_list 151 = .ok (.aload_n 0, 1) := by decide +kernel
theorem dX12_list_152 : decode cX12_list 152 = .ok (.iconst 0, 1) := by decide +kernel
theorem dX12_list_153 : decode cX12_list 153 = .ok (.putfield 94, 3) := by decide +kernel
theorem dX12_list_156 : decode cX12_list 156 = .ok (.aload_n 0, 1) := by decide +kernel
theorem dX12_list_157 : decode cX12_list 157 = .ok (.iconst 0, 1) := by decide +kernel
theorem dX12_list_158 : decode cX12_list 158 = .ok (.putfield 97, 3) := by decide +kernel
theorem dX12_list_161 : decode cX12_list 161 = .ok (.aload_n 0, 1) := by decide +kernel
theorem dX12_list_162 : decode cX12_list 162 = .ok (.dup, 1) := by decide +kernel
theorem dX12_list_163 : decode cX12_list 163 = .ok (.getfield 100, 3) := by decide +kernel
theorem dX12_list_166 : decode cX12_list 166 = .ok (.iconst 1, 1) := by decide +kernel
theorem dX12_list_167 : decode cX12_list 167 = .ok (.iadd, 1) := by decide +kernel
theorem dX12_list_168 : decode cX12_list 168 = .ok (.putfield 100, 3) := by decide +kernel
theorem dX12_list_171 : decode cX12_list 171 = .ok (.aload_n 0, 1) := by decide +kernel
theorem dX12_list_172 : decode cX12_list 172 = .ok (.iconst 0, 1) := by decide +kernel
theorem dX12_list_173 : decode cX12_list 173 = .ok (.putfield 66, 3) := by decide +kernel
theorem dX12_list_176 : decode cX12_list 176 = .ok (.aload_n 0, 1) := by decide +kernel
theorem dX12_list_177 : decode cX12_list 177 = .ok (.getfield 91, 3) := by decide +kernel
theorem dX12_list_180 : decode cX12_list 180 = .ok (.ireturn, 1) := by decide +kernel
theorem dX12_lacks_0 : decode cX12_lacks 0 = .ok (.aload_n 0, 1) := by decide +kernel
theorem dX12_lacks_1 : decode cX12_lacks 1 = .ok (.getfield 91, 3) := by decide +kernel
theorem dX12_lacks_4 : decode cX12_lacks 4 = .ok (.ifCond .ne 7, 3) := by decide +kernel
theorem dX12_lacks_7 : decode cX12_lacks 7 = .ok (.iconst 1, 1) := by decide +kernel
theorem dX12_lacks_8 : decode cX12_lacks 8 = .ok (.goto 4, 3) := by decide +kernel
theorem dX12_lacks_11 : decode cX12_lacks 11 = .ok (.iconst 0, 1) := by decide +kernel
theorem dX12_lacks_12 : decode cX12_lacks 12 = .ok (.ireturn, 1) := by decide +kernel
theorem dX12_isFeud_0 : decode cX12_isFeud 0 = .ok (.iload_n 1, 1) := by decide +kernel
theorem dX12_isFeud_1 : decode cX12_isFeud 1 = .ok (.i2l, 1) := by decide +kernel
theorem dX12_isFeud_2 : decode cX12_isFeud 2 = .ok (.lconst 0, 1) := by decide +kernel
theorem dX12_isFeud_3 : decode cX12_isFeud 3 = .ok (.aload_n 0, 1) := by decide +kernel
theorem dX12_isFeud_4 : decode cX12_isFeud 4 = .ok (.getfield 91, 3) := by decide +kernel
theorem dX12_isFeud_7 : decode cX12_isFeud 7 = .ok (.iconst 1, 1) := by decide +kernel
theorem dX12_isFeud_8 : decode cX12_isFeud 8 = .ok (.isub, 1) := by decide +kernel
theorem dX12_isFeud_9 : decode cX12_isFeud 9 = .ok (.i2l, 1) := by decide +kernel
theorem dX12_isFeud_10 : decode cX12_isFeud 10 = .ok (.invokestatic 62, 3) := by decide +kernel
theorem dX12_isFeud_13 : decode cX12_isFeud 13 = .ok (.ireturn, 1) := by decide +kernel
theorem dX12_isPerson_0 : decode cX12_isPerson 0 = .ok (.iload_n 0, 1) := by decide +kernel
theorem dX12_isPerson_1 : decode cX12_isPerson 1 = .ok (.i2l, 1) := by decide +kernel
theorem dX12_isPerson_2 : decode cX12_isPerson 2 = .ok (.lconst 0, 1) := by decide +kernel
theorem dX12_isPerson_3 : decode cX12_isPerson 3 = .ok (.ldc2_w 77, 3) := by decide +kernel
theorem dX12_isPerson_6 : decode cX12_isPerson 6 = .ok (.invokestatic 62, 3) := by decide +kernel
theorem dX12_isPerson_9 : decode cX12_isPerson 9 = .ok (.ireturn, 1) := by decide +kernel
theorem dX12_arePair_0 : decode cX12_arePair 0 = .ok (.iload_n 0, 1) := by decide +kernel
theorem dX12_arePair_1 : decode cX12_arePair 1 = .ok (.invokestatic 103, 3) := by decide +kernel
theorem dX12_arePair_4 : decode cX12_arePair 4 = .ok (.ifCond .eq 19, 3) := by decide +kernel
theorem dX12_arePair_7 : decode cX12_arePair 7 = .ok (.iload_n 1, 1) := by decide +kernel
theorem dX12_arePair_8 : decode cX12_arePair 8 = .ok (.invokestatic 103, 3) := by decide +kernel
theorem dX12_arePair_11 : decode cX12_arePair 11 = .ok (.ifCond .eq 12, 3) := by decide +kernel
theorem dX12_arePair_14 : decode cX12_arePair 14 = .ok (.iload_n 0, 1) := by decide +kernel
theorem dX12_arePair_15 : decode cX12_arePair 15 = .ok (.iload_n 1, 1) := by decide +kernel
theorem dX12_arePair_16 : decode cX12_arePair 16 = .ok (.if_icmp .eq 7, 3) := by decide +kernel
theorem dX12_arePair_19 : decode cX12_arePair 19 = .ok (.iconst 1, 1) := by decide +kernel
theorem dX12_arePair_20 : decode cX12_arePair 20 = .ok (.goto 4, 3) := by decide +kernel
theorem dX12_arePair_23 : decode cX12_arePair 23 = .ok (.iconst 0, 1) := by decide +kernel
theorem dX12_arePair_24 : decode cX12_arePair 24 = .ok (.ireturn, 1) := by decide +kernel
theorem dX12_isStruck_0 : decode cX12_isStruck 0 = .ok (.aload_n 0, 1) := by decide +kernel
theorem dX12_isStruck_1 : decode cX12_isStruck 1 = .ok (.getfield 16, 3) := by decide +kernel
theorem dX12_isStruck_4 : decode cX12_isStruck 4 = .ok (.bipush 7, 2) := by decide +kernel
theorem dX12_isStruck_6 : decode cX12_isStruck 6 = .ok (.iload_n 1, 1) := by decide +kernel
theorem dX12_isStruck_7 : decode cX12_isStruck 7 = .ok (.imul, 1) := by decide +kernel
theorem dX12_isStruck_8 : decode cX12_isStruck 8 = .ok (.iconst 2, 1) := by decide +kernel
theorem dX12_isStruck_9 : decode cX12_isStruck 9 = .ok (.iadd, 1) := by decide +kernel
theorem dX12_isStruck_10 : decode cX12_isStruck 10 = .ok (.iaload, 1) := by decide +kernel
theorem dX12_isStruck_11 : decode cX12_isStruck 11 = .ok (.iconst 1, 1) := by decide +kernel
theorem dX12_isStruck_12 : decode cX12_isStruck 12 = .ok (.if_icmp .ne 7, 3) := by decide +kernel
theorem dX12_isStruck_15 : decode cX12_isStruck 15 = .ok (.iconst 1, 1) := by decide +kernel
theorem dX12_isStruck_16 : decode cX12_isStruck 16 = .ok (.goto 4, 3) := by decide +kernel
theorem dX12_isStruck_19 : decode cX12_isStruck 19 = .ok (.iconst 0, 1) := by decide +kernel
theorem dX12_isStruck_20 : decode cX12_isStruck 20 = .ok (.ireturn, 1) := by decide +kernel
theorem dX12_isAlive_0 : decode cX12_isAlive 0 = .ok (.aload_n 0, 1) := by decide +kernel
theorem dX12_isAlive_1 : decode cX12_isAlive 1 = .ok (.getfield 19, 3) := by decide +kernel
theorem dX12_isAlive_4 : decode cX12_isAlive 4 = .ok (.iconst 3, 1) := by decide +kernel
theorem dX12_isAlive_5 : decode cX12_isAlive 5 = .ok (.iload_n 1, 1) := by decide +kernel
theorem dX12_isAlive_6 : decode cX12_isAlive 6 = .ok (.imul, 1) := by decide +kernel
theorem dX12_isAlive_7 : decode cX12_isAlive 7 = .ok (.iconst 2, 1) := by decide +kernel
theorem dX12_isAlive_8 : decode cX12_isAlive 8 = .ok (.iadd, 1) := by decide +kernel
theorem dX12_isAlive_9 : decode cX12_isAlive 9 = .ok (.iaload, 1) := by decide +kernel
theorem dX12_isAlive_10 : decode cX12_isAlive 10 = .ok (.iconst 1, 1) := by decide +kernel
theorem dX12_isAlive_11 : decode cX12_isAlive 11 = .ok (.if_icmp .ne 7, 3) := by decide +kernel
theorem dX12_isAlive_14 : decode cX12_isAlive 14 = .ok (.iconst 1, 1) := by decide +kernel
theorem dX12_isAlive_15 : decode cX12_isAlive 15 = .ok (.goto 4, 3) := by decide +kernel
theorem dX12_isAlive_18 : decode cX12_isAlive 18 = .ok (.iconst 0, 1) := by decide +kernel
theorem dX12_isAlive_19 : decode cX12_isAlive 19 = .ok (.ireturn, 1) := by decide +kernel
theorem dX12_ownerOf_0 : decode cX12_ownerOf 0 = .ok (.aload_n 0, 1) := by decide +kernel
theorem dX12_ownerOf_1 : decode cX12_ownerOf 1 = .ok (.getfield 16, 3) := by decide +kernel
theorem dX12_ownerOf_4 : decode cX12_ownerOf 4 = .ok (.bipush 7, 2) := by decide +kernel
theorem dX12_ownerOf_6 : decode cX12_ownerOf 6 = .ok (.iload_n 1, 1) := by decide +kernel
theorem dX12_ownerOf_7 : decode cX12_ownerOf 7 = .ok (.imul, 1) := by decide +kernel
theorem dX12_ownerOf_8 : decode cX12_ownerOf 8 = .ok (.iconst 3, 1) := by decide +kernel
theorem dX12_ownerOf_9 : decode cX12_ownerOf 9 = .ok (.iadd, 1) := by decide +kernel
theorem dX12_ownerOf_10 : decode cX12_ownerOf 10 = .ok (.iload_n 2, 1) := by decide +kernel
theorem dX12_ownerOf_11 : decode cX12_ownerOf 11 = .ok (.iadd, 1) := by decide +kernel
theorem dX12_ownerOf_12 : decode cX12_ownerOf 12 = .ok (.iaload, 1) := by decide +kernel
theorem dX12_ownerOf_13 : decode cX12_ownerOf 13 = .ok (.ireturn, 1) := by decide +kernel
theorem dX12_borrowerOf_0 : decode cX12_borrowerOf 0 = .ok (.aload_n 0, 1) := by decide +kernel
theorem dX12_borrowerOf_1 : decode cX12_borrowerOf 1 = .ok (.getfield 16, 3) := by decide +kernel
theorem dX12_borrowerOf_4 : decode cX12_borrowerOf 4 = .ok (.bipush 7, 2) := by decide +kernel
theorem dX12_borrowerOf_6 : decode cX12_borrowerOf 6 = .ok (.iload_n 1, 1) := by decide +kernel
theorem dX12_borrowerOf_7 : decode cX12_borrowerOf 7 = .ok (.imul, 1) := by decide +kernel
theorem dX12_borrowerOf_8 : decode cX12_borrowerOf 8 = .ok (.iconst 5, 1) := by decide +kernel
theorem dX12_borrowerOf_9 : decode cX12_borrowerOf 9 = .ok (.iadd, 1) := by decide +kernel
theorem dX12_borrowerOf_10 : decode cX12_borrowerOf 10 = .ok (.iload_n 2, 1) := by decide +kernel
theorem dX12_borrowerOf_11 : decode cX12_borrowerOf 11 = .ok (.iadd, 1) := by decide +kernel
theorem dX12_borrowerOf_12 : decode cX12_borrowerOf 12 = .ok (.iaload, 1) := by decide +kernel
theorem dX12_borrowerOf_13 : decode cX12_borrowerOf 13 = .ok (.ireturn, 1) := by decide +kernel
theorem dX12_onSide_0 : decode cX12_onSide 0 = .ok (.aload_n 0, 1) := by decide +kernel
theorem dX12_onSide_1 : decode cX12_onSide 1 = .ok (.iload_n 1, 1) := by decide +kernel
theorem dX12_onSide_2 : decode cX12_onSide 2 = .ok (.iload_n 2, 1) := by decide +kernel
theorem dX12_onSide_3 : decode cX12_onSide 3 = .ok (.invokevirtual 106, 3) := by decide +kernel
theorem dX12_onSide_6 : decode cX12_onSide 6 = .ok (.iconst (-1), 1) := by decide +kernel
theorem dX12_onSide_7 : decode cX12_onSide 7 = .ok (.if_icmp .ne 12, 3) := by decide +kernel
theorem dX12_onSide_10 : decode cX12_onSide 10 = .ok (.aload_n 0, 1) := by decide +kernel
theorem dX12_onSide_11 : decode cX12_onSide 11 = .ok (.iload_n 1, 1) := by decide +kernel
theorem dX12_onSide_12 : decode cX12_onSide 12 = .ok (.iload_n 2, 1) := by decide +kernel
theorem dX12_onSide_13 : decode cX12_onSide 13 = .ok (.invokevirtual 110, 3) := by decide +kernel
theorem dX12_onSide_16 : decode cX12_onSide 16 = .ok (.goto 9, 3) := by decide +kernel
theorem dX12_onSide_19 : decode cX12_onSide 19 = .ok (.aload_n 0, 1) := by decide +kernel
theorem dX12_onSide_20 : decode cX12_onSide 20 = .ok (.iload_n 1, 1) := by decide +kernel
theorem dX12_onSide_21 : decode cX12_onSide 21 = .ok (.iload_n 2, 1) := by decide +kernel
theorem dX12_onSide_22 : decode cX12_onSide 22 = .ok (.invokevirtual 106, 3) := by decide +kernel
theorem dX12_onSide_25 : decode cX12_onSide 25 = .ok (.ireturn, 1) := by decide +kernel
theorem dX12_hasToDo_0 : decode cX12_hasToDo 0 = .ok (.iconst 0, 1) := by decide +kernel
theorem dX12_hasToDo_1 : decode cX12_hasToDo 1 = .ok (.istore_n 3, 1) := by decide +kernel
theorem dX12_hasToDo_2 : decode cX12_hasToDo 2 = .ok (.iconst 3, 1) := by decide +kernel
theorem dX12_hasToDo_3 : decode cX12_hasToDo 3 = .ok (.istore 4, 2) := by decide +kernel
theorem dX12_hasToDo_5 : decode cX12_hasToDo 5 = .ok (.iload 4, 2) := by decide +kernel
theorem dX12_hasToDo_7 : decode cX12_hasToDo 7 = .ok (.bipush 7, 2) := by decide +kernel
theorem dX12_hasToDo_9 : decode cX12_hasToDo 9 = .ok (.if_icmp .ge 35, 3) := by decide +kernel
theorem dX12_hasToDo_12 : decode cX12_hasToDo 12 = .ok (.iload_n 3, 1) := by decide +kernel
theorem dX12_hasToDo_13 : decode cX12_hasToDo 13 = .ok (.ifCond .ne 19, 3) := by decide +kernel
theorem dX12_hasToDo_16 : decode cX12_hasToDo 16 = .ok (.aload_n 0, 1) := by decide +kernel
theorem dX12_hasToDo_17 : decode cX12_hasToDo 17 = .ok (.getfield 16, 3) := by decide +kernel
theorem dX12_hasToDo_20 : decode cX12_hasToDo 20 = .ok (.bipush 7, 2) := by decide +kernel
theorem dX12_hasToDo_22 : decode cX12_hasToDo 22 = .ok (.iload_n 2, 1) := by decide +kernel
theorem dX12_hasToDo_23 : decode cX12_hasToDo 23 = .ok (.imul, 1) := by decide +kernel
theorem dX12_hasToDo_24 : decode cX12_hasToDo 24 = .ok (.iload 4, 2) := by decide +kernel
theorem dX12_hasToDo_26 : decode cX12_hasToDo 26 = .ok (.iadd, 1) := by decide +kernel
theorem dX12_hasToDo_27 : decode cX12_hasToDo 27 = .ok (.iaload, 1) := by decide +kernel
theorem dX12_hasToDo_28 : decode cX12_hasToDo 28 = .ok (.iload_n 1, 1) := by decide +kernel
theorem dX12_hasToDo_29 : decode cX12_hasToDo 29 = .ok (.if_icmp .ne 7, 3) := by decide +kernel
theorem dX12_hasToDo_32 : decode cX12_hasToDo 32 = .ok (.iconst 1, 1) := by decide +kernel
theorem dX12_hasToDo_33 : decode cX12_hasToDo 33 = .ok (.goto 4, 3) := by decide +kernel
theorem dX12_hasToDo_36 : decode cX12_hasToDo 36 = .ok (.iconst 0, 1) := by decide +kernel
theorem dX12_hasToDo_37 : decode cX12_hasToDo 37 = .ok (.istore_n 3, 1) := by decide +kernel
theorem dX12_hasToDo_38 : decode cX12_hasToDo 38 = .ok (.iinc 4 1, 3) := by decide +kernel
theorem dX12_hasToDo_41 : decode cX12_hasToDo 41 = .ok (.goto (-36), 3) := by decide +kernel
theorem dX12_hasToDo_44 : decode cX12_hasToDo 44 = .ok (.iload_n 3, 1) := by decide +kernel
theorem dX12_hasToDo_45 : decode cX12_hasToDo 45 = .ok (.ifCond .eq 15, 3) := by decide +kernel
theorem dX12_hasToDo_48 : decode cX12_hasToDo 48 = .ok (.aload_n 0, 1) := by decide +kernel
theorem dX12_hasToDo_49 : decode cX12_hasToDo 49 = .ok (.iload_n 2, 1) := by decide +kernel
theorem dX12_hasToDo_50 : decode cX12_hasToDo 50 = .ok (.invokevirtual 113, 3) := by decide +kernel
theorem dX12_hasToDo_53 : decode cX12_hasToDo 53 = .ok (.ifCond .ne 7, 3) := by decide +kernel
theorem dX12_hasToDo_56 : decode cX12_hasToDo 56 = .ok (.iconst 1, 1) := by decide +kernel
theorem dX12_hasToDo_57 : decode cX12_hasToDo 57 = .ok (.goto 4, 3) := by decide +kernel
theorem dX12_hasToDo_60 : decode cX12_hasToDo 60 = .ok (.iconst 0, 1) := by decide +kernel
theorem dX12_hasToDo_61 : decode cX12_hasToDo 61 = .ok (.ireturn, 1) := by decide +kernel
theorem dX12_priceOf_0 : decode cX12_priceOf 0 = .ok (.aload_n 0, 1) := by decide +kernel
theorem dX12_priceOf_1 : decode cX12_priceOf 1 = .ok (.getfield 16, 3) := by decide +kernel
theorem dX12_priceOf_4 : decode cX12_priceOf 4 = .ok (.bipush 7, 2) := by decide +kernel
theorem dX12_priceOf_6 : decode cX12_priceOf 6 = .ok (.iload_n 1, 1) := by decide +kernel
theorem dX12_priceOf_7 : decode cX12_priceOf 7 = .ok (.imul, 1) := by decide +kernel
theorem dX12_priceOf_8 : decode cX12_priceOf 8 = .ok (.iaload, 1) := by decide +kernel
theorem dX12_priceOf_9 : decode cX12_priceOf 9 = .ok (.istore_n 3, 1) := by decide +kernel
theorem dX12_priceOf_10 : decode cX12_priceOf 10 = .ok (.aload_n 0, 1) := by decide +kernel
theorem dX12_priceOf_11 : decode cX12_priceOf 11 = .ok (.getfield 16, 3) := by decide +kernel
theorem dX12_priceOf_14 : decode cX12_priceOf 14 = .ok (.bipush 7, 2) := by decide +kernel
theorem dX12_priceOf_16 : decode cX12_priceOf 16 = .ok (.iload_n 1, 1) := by decide +kernel
theorem dX12_priceOf_17 : decode cX12_priceOf 17 = .ok (.imul, 1) := by decide +kernel
theorem dX12_priceOf_18 : decode cX12_priceOf 18 = .ok (.iconst 1, 1) := by decide +kernel
theorem dX12_priceOf_19 : decode cX12_priceOf 19 = .ok (.iadd, 1) := by decide +kernel
theorem dX12_priceOf_20 : decode cX12_priceOf 20 = .ok (.iaload, 1) := by decide +kernel
theorem dX12_priceOf_21 : decode cX12_priceOf 21 = .ok (.istore 4, 2) := by decide +kernel
theorem dX12_priceOf_23 : decode cX12_priceOf 23 = .ok (.iload_n 3, 1) := by decide +kernel
theorem dX12_priceOf_24 : decode cX12_priceOf 24 = .ok (.iconst 2, 1) := by decide +kernel
theorem dX12_priceOf_25 : decode cX12_priceOf 25 = .ok (.if_icmp .ne 7, 3) := by decide +kernel
theorem dX12_priceOf_28 : decode cX12_priceOf 28 = .ok (.iconst 1, 1) := by decide +kernel
theorem dX12_priceOf_29 : decode cX12_priceOf 29 = .ok (.goto 28, 3) := by decide +kernel
theorem dX12_priceOf_32 : decode cX12_priceOf 32 = .ok (.iload_n 3, 1) := by decide +kernel
theorem dX12_priceOf_33 : decode cX12_priceOf 33 = .ok (.iconst 2, 1) := by decide +kernel
theorem dX12_priceOf_34 : decode cX12_priceOf 34 = .ok (.if_icmp .ge 8, 3) := by decide +kernel
theorem dX12_priceOf_37 : decode cX12_priceOf 37 = .ok (.iload 4, 2) := by decide +kernel
theorem dX12_priceOf_39 : decode cX12_priceOf 39 = .ok (.goto 18, 3) := by decide +kernel
theorem dX12_priceOf_42 : decode cX12_priceOf 42 = .ok (.iconst 2, 1) := by decide +kernel
theorem dX12_priceOf_43 : decode cX12_priceOf 43 = .ok (.iload 4, 2) := by decide +kernel
theorem dX12_priceOf_45 : decode cX12_priceOf 45 = .ok (.imul, 1) := by decide +kernel
theorem dX12_priceOf_46 : decode cX12_priceOf 46 = .ok (.iload_n 3, 1) := by decide +kernel
theorem dX12_priceOf_47 : decode cX12_priceOf 47 = .ok (.iconst 4, 1) := by decide +kernel
theorem dX12_priceOf_48 : decode cX12_priceOf 48 = .ok (.if_icmp .ne 7, 3) := by decide +kernel
theorem dX12_priceOf_51 : decode cX12_priceOf 51 = .ok (.iconst 3, 1) := by decide +kernel
theorem dX12_priceOf_52 : decode cX12_priceOf 52 = .ok (.goto 4, 3) := by decide +kernel
theorem dX12_priceOf_55 : decode cX12_priceOf 55 = .ok (.iconst 0, 1) := by decide +kernel
theorem dX12_priceOf_56 : decode cX12_priceOf 56 = .ok (.iadd, 1) := by decide +kernel
theorem dX12_priceOf_57 : decode cX12_priceOf 57 = .ok (.istore 5, 2) := by decide +kernel
theorem dX12_priceOf_59 : decode cX12_priceOf 59 = .ok (.aload_n 0, 1) := by decide +kernel
theorem dX12_priceOf_60 : decode cX12_priceOf 60 = .ok (.iload_n 1, 1) := by decide +kernel
theorem dX12_priceOf_61 : decode cX12_priceOf 61 = .ok (.iconst 1, 1) := by decide +kernel
theorem dX12_priceOf_62 : decode cX12_priceOf 62 = .ok (.iload_n 2, 1) := by decide +kernel
theorem dX12_priceOf_63 : decode cX12_priceOf 63 = .ok (.isub, 1) := by decide +kernel
theorem dX12_priceOf_64 : decode cX12_priceOf 64 = .ok (.invokevirtual 110, 3) := by decide +kernel
theorem dX12_priceOf_67 : decode cX12_priceOf 67 = .ok (.iconst (-1), 1) := by decide +kernel
theorem dX12_priceOf_68 : decode cX12_priceOf 68 = .ok (.if_icmp .ne 12, 3) := by decide +kernel
theorem dX12_priceOf_71 : decode cX12_priceOf 71 = .ok (.iload 5, 2) := by decide +kernel
theorem dX12_priceOf_73 : decode cX12_priceOf 73 = .ok (.iconst 1, 1) := by decide +kernel
theorem dX12_priceOf_74 : decode cX12_priceOf 74 = .ok (.iadd, 1) := by decide +kernel
theorem dX12_priceOf_75 : decode cX12_priceOf 75 = .ok (.iconst 2, 1) := by decide +kernel
theorem dX12_priceOf_76 : decode cX12_priceOf 76 = .ok (.idiv, 1) := by decide +kernel
theorem dX12_priceOf_77 : decode cX12_priceOf 77 = .ok (.goto 5, 3) := by decide +kernel
theorem dX12_priceOf_80 : decode cX12_priceOf 80 = .ok (.iload 5, 2) := by decide +kernel
theorem dX12_priceOf_82 : decode cX12_priceOf 82 = .ok (.ireturn, 1) := by decide +kernel
theorem dX12_tell_0 : decode cX12_tell 0 = .ok (.iload_n 2, 1) := by decide +kernel
theorem dX12_tell_1 : decode cX12_tell 1 = .ok (.tableswitch 119 0 8 #[51, 51, 51, 63, 63, 72, 72, 97, 97], 51) := by decide +kernel
theorem dX12_tell_52 : decode cX12_tell 52 = .ok (.aload_n 0, 1) := by decide +kernel
theorem dX12_tell_53 : decode cX12_tell 53 = .ok (.getfield 16, 3) := by decide +kernel
theorem dX12_tell_56 : decode cX12_tell 56 = .ok (.bipush 7, 2) := by decide +kernel
theorem dX12_tell_58 : decode cX12_tell 58 = .ok (.iload_n 1, 1) := by decide +kernel
theorem dX12_tell_59 : decode cX12_tell 59 = .ok (.imul, 1) := by decide +kernel
theorem dX12_tell_60 : decode cX12_tell 60 = .ok (.iload_n 2, 1) := by decide +kernel
theorem dX12_tell_61 : decode cX12_tell 61 = .ok (.iadd, 1) := by decide +kernel
theorem dX12_tell_62 : decode cX12_tell 62 = .ok (.iaload, 1) := by decide +kernel
theorem dX12_tell_63 : decode cX12_tell 63 = .ok (.ireturn, 1) := by decide +kernel
theorem dX12_tell_64 : decode cX12_tell 64 = .ok (.aload_n 0, 1) := by decide +kernel
theorem dX12_tell_65 : decode cX12_tell 65 = .ok (.iload_n 1, 1) := by decide +kernel
theorem dX12_tell_66 : decode cX12_tell 66 = .ok (.iload_n 2, 1) := by decide +kernel
theorem dX12_tell_67 : decode cX12_tell 67 = .ok (.iconst 3, 1) := by decide +kernel
theorem dX12_tell_68 : decode cX12_tell 68 = .ok (.isub, 1) := by decide +kernel
theorem dX12_tell_69 : decode cX12_tell 69 = .ok (.invokevirtual 116, 3) := by decide +kernel
theorem dX12_tell_72 : decode cX12_tell 72 = .ok (.ireturn, 1) := by decide +kernel
theorem dX12_tell_73 : decode cX12_tell 73 = .ok (.aload_n 0, 1) := by decide +kernel
theorem dX12_tell_74 : decode cX12_tell 74 = .ok (.iload_n 1, 1) := by decide +kernel
theorem dX12_tell_75 : decode cX12_tell 75 = .ok (.iload_n 2, 1) := by decide +kernel
theorem dX12_tell_76 : decode cX12_tell 76 = .ok (.iconst 5, 1) := by decide +kernel
theorem dX12_tell_77 : decode cX12_tell 77 = .ok (.isub, 1) := by decide +kernel
theorem dX12_tell_78 : decode cX12_tell 78 = .ok (.invokevirtual 106, 3) := by decide +kernel
theorem dX12_tell_81 : decode cX12_tell 81 = .ok (.iconst (-1), 1) := by decide +kernel
theorem dX12_tell_82 : decode cX12_tell 82 = .ok (.if_icmp .ne 7, 3) := by decide +kernel
theorem dX12_tell_85 : decode cX12_tell 85 = .ok (.iconst (-1), 1) := by decide +kernel
theorem dX12_tell_86 : decode cX12_tell 86 = .ok (.goto 11, 3) := by decide +kernel
theorem dX12_tell_89 : decode cX12_tell 89 = .ok (.aload_n 0, 1) := by decide +kernel
theorem dX12_tell_90 : decode cX12_tell 90 = .ok (.iload_n 1, 1) := by decide +kernel
theorem dX12_tell_91 : decode cX12_tell 91 = .ok (.iload_n 2, 1) := by decide +kernel
theorem dX12_tell_92 : decode cX12_tell 92 = .ok (.iconst 5, 1) := by decide +kernel
theorem dX12_tell_93 : decode cX12_tell 93 = .ok (.isub, 1) := by decide +kernel
theorem dX12_tell_94 : decode cX12_tell 94 = .ok (.invokevirtual 110, 3) := by decide +kernel
theorem dX12_tell_97 : decode cX12_tell 97 = .ok (.ireturn, 1) := by decide +kernel
theorem dX12_tell_98 : decode cX12_tell 98 = .ok (.aload_n 0, 1) := by decide +kernel
theorem dX12_tell_99 : decode cX12_tell 99 = .ok (.iload_n 1, 1) := by decide +kernel
theorem dX12_tell_100 : decode cX12_tell 100 = .ok (.invokevirtual 113, 3) := by decide +kernel
theorem dX12_tell_103 : decode cX12_tell 103 = .ok (.ifCond .eq 7, 3) := by decide +kernel
theorem dX12_tell_106 : decode cX12_tell 106 = .ok (.iconst (-1), 1) := by decide +kernel
theorem dX12_tell_107 : decode cX12_tell 107 = .ok (.goto 12, 3) := by decide +kernel
theorem dX12_tell_110 : decode cX12_tell 110 = .ok (.aload_n 0, 1) := by decide +kernel
theorem dX12_tell_111 : decode cX12_tell 111 = .ok (.iload_n 1, 1) := by decide +kernel
theorem dX12_tell_112 : decode cX12_tell 112 = .ok (.iload_n 2, 1) := by decide +kernel
theorem dX12_tell_113 : decode cX12_tell 113 = .ok (.bipush 7, 2) := by decide +kernel
theorem dX12_tell_115 : decode cX12_tell 115 = .ok (.isub, 1) := by decide +kernel
theorem dX12_tell_116 : decode cX12_tell 116 = .ok (.invokevirtual 119, 3) := by decide +kernel
theorem dX12_tell_119 : decode cX12_tell 119 = .ok (.ireturn, 1) := by decide +kernel
theorem dX12_tell_120 : decode cX12_tell 120 = .ok (.bipush (-102), 2) := by decide +kernel
theorem dX12_tell_122 : decode cX12_tell 122 = .ok (.ireturn, 1) := by decide +kernel
theorem dX12_about_0 : decode cX12_about 0 = .ok (.aload_n 0, 1) := by decide +kernel
theorem dX12_about_1 : decode cX12_about 1 = .ok (.iload_n 1, 1) := by decide +kernel
theorem dX12_about_2 : decode cX12_about 2 = .ok (.invokevirtual 122, 3) := by decide +kernel
theorem dX12_about_5 : decode cX12_about 5 = .ok (.ifCond .eq 12, 3) := by decide +kernel
theorem dX12_about_8 : decode cX12_about 8 = .ok (.aload_n 0, 1) := by decide +kernel
theorem dX12_about_9 : decode cX12_about 9 = .ok (.iload_n 1, 1) := by decide +kernel
theorem dX12_about_10 : decode cX12_about 10 = .ok (.iload_n 2, 1) := by decide +kernel
theorem dX12_about_11 : decode cX12_about 11 = .ok (.invokevirtual 125, 3) := by decide +kernel
theorem dX12_about_14 : decode cX12_about 14 = .ok (.goto 5, 3) := by decide +kernel
theorem dX12_about_17 : decode cX12_about 17 = .ok (.bipush (-101), 2) := by decide +kernel
theorem dX12_about_19 : decode cX12_about 19 = .ok (.ireturn, 1) := by decide +kernel
theorem dX12_as_0 : decode cX12_as 0 = .ok (.aload_n 0, 1) := by decide +kernel
theorem dX12_as_1 : decode cX12_as 1 = .ok (.iload_n 1, 1) := by decide +kernel
theorem dX12_as_2 : decode cX12_as 2 = .ok (.invokevirtual 122, 3) := by decide +kernel
theorem dX12_as_5 : decode cX12_as 5 = .ok (.ifCond .ne 6, 3) := by decide +kernel
theorem dX12_as_8 : decode cX12_as 8 = .ok (.bipush (-101), 2) := by decide +kernel
theorem dX12_as_10 : decode cX12_as 10 = .ok (.ireturn, 1) := by decide +kernel
theorem dX12_as_11 : decode cX12_as 11 = .ok (.iload_n 2, 1) := by decide +kernel
theorem dX12_as_12 : decode cX12_as 12 = .ok (.i2l, 1) := by decide +kernel
theorem dX12_as_13 : decode cX12_as 13 = .ok (.lconst 0, 1) := by decide +kernel
theorem dX12_as_14 : decode cX12_as 14 = .ok (.ldc2_w 128, 3) := by decide +kernel
theorem dX12_as_17 : decode cX12_as 17 = .ok (.invokestatic 62, 3) := by decide +kernel
theorem dX12_as_20 : decode cX12_as 20 = .ok (.ifCond .ne 6, 3) := by decide +kernel
theorem dX12_as_23 : decode cX12_as 23 = .ok (.bipush (-102), 2) := by decide +kernel
theorem dX12_as_25 : decode cX12_as 25 = .ok (.ireturn, 1) := by decide +kernel
theorem dX12_as_26 : decode cX12_as 26 = .ok (.aload_n 0, 1) := by decide +kernel
theorem dX12_as_27 : decode cX12_as 27 = .ok (.getfield 16, 3) := by decide +kernel
theorem dX12_as_30 : decode cX12_as 30 = .ok (.bipush 7, 2) := by decide +kernel
theorem dX12_as_32 : decode cX12_as 32 = .ok (.iload_n 1, 1) := by decide +kernel
theorem dX12_as_33 : decode cX12_as 33 = .ok (.imul, 1) := by decide +kernel
theorem dX12_as_34 : decode cX12_as 34 = .ok (.iaload, 1) := by decide +kernel
theorem dX12_as_35 : decode cX12_as 35 = .ok (.istore_n 3, 1) := by decide +kernel
theorem dX12_as_36 : decode cX12_as 36 = .ok (.iload_n 2, 1) := by decide +kernel
theorem dX12_as_37 : decode cX12_as 37 = .ok (.ifCond .eq 18, 3) := by decide +kernel
theorem dX12_as_40 : decode cX12_as 40 = .ok (.iload_n 2, 1) := by decide +kernel
theorem dX12_as_41 : decode cX12_as 41 = .ok (.iload_n 3, 1) := by decide +kernel
theorem dX12_as_42 : decode cX12_as 42 = .ok (.if_icmp .eq 13, 3) := by decide +kernel
theorem dX12_as_45 : decode cX12_as 45 = .ok (.iload_n 2, 1) := by decide +kernel
theorem dX12_as_46 : decode cX12_as 46 = .ok (.iconst 3, 1) := by decide +kernel
theorem dX12_as_47 : decode cX12_as 47 = .ok (.if_icmp .ne 12, 3) := by decide +kernel
theorem dX12_as_50 : decode cX12_as 50 = .ok (.iload_n 3, 1) := by decide +kernel
theorem dX12_as_51 : decode cX12_as 51 = .ok (.iconst 4, 1) := by decide +kernel
theorem dX12_as_52 : decode cX12_as 52 = .ok (.if_icmp .ne 7, 3) := by decide +kernel
theorem dX12_as_55 : decode cX12_as 55 = .ok (.iconst 1, 1) := by decide +kernel
theorem dX12_as_56 : decode cX12_as 56 = .ok (.goto 4, 3) := by decide +kernel
theorem dX12_as_59 : decode cX12_as 59 = .ok (.iconst 0, 1) := by decide +kernel
theorem dX12_as_60 : decode cX12_as 60 = .ok (.istore 4, 2) := by decide +kernel
theorem dX12_as_62 : decode cX12_as 62 = .ok (.iload 4, 2) := by decide +kernel
theorem dX12_as_64 : decode cX12_as 64 = .ok (.ifCond .eq 7, 3) := by decide +kernel
theorem dX12_as_67 : decode cX12_as 67 = .ok (.iload_n 1, 1) := by decide +kernel
theorem dX12_as_68 : decode cX12_as 68 = .ok (.goto 4, 3) := by decide +kernel
theorem dX12_as_71 : decode cX12_as 71 = .ok (.iconst (-1), 1) := by decide +kernel
theorem dX12_as_72 : decode cX12_as 72 = .ok (.ireturn, 1) := by decide +kernel
theorem dX12_sidesOf_0 : decode cX12_sidesOf 0 = .ok (.iconst 0, 1) := by decide +kernel
theorem dX12_sidesOf_1 : decode cX12_sidesOf 1 = .ok (.istore_n 2, 1) := by decide +kernel
theorem dX12_sidesOf_2 : decode cX12_sidesOf 2 = .ok (.iconst 0, 1) := by decide +kernel
theorem dX12_sidesOf_3 : decode cX12_sidesOf 3 = .ok (.istore_n 3, 1) := by decide +kernel
theorem dX12_sidesOf_4 : decode cX12_sidesOf 4 = .ok (.iload_n 3, 1) := by decide +kernel
theorem dX12_sidesOf_5 : decode cX12_sidesOf 5 = .ok (.iconst 2, 1) := by decide +kernel
theorem dX12_sidesOf_6 : decode cX12_sidesOf 6 = .ok (.aload_n 0, 1) := by decide +kernel
theorem dX12_sidesOf_7 : decode cX12_sidesOf 7 = .ok (.getfield 91, 3) := by decide +kernel
theorem dX12_sidesOf_10 : decode cX12_sidesOf 10 = .ok (.imul, 1) := by decide +kernel
theorem dX12_sidesOf_11 : decode cX12_sidesOf 11 = .ok (.if_icmp .ge 41, 3) := by decide +kernel
theorem dX12_sidesOf_14 : decode cX12_sidesOf 14 = .ok (.iload_n 2, 1) := by decide +kernel
theorem dX12_sidesOf_15 : decode cX12_sidesOf 15 = .ok (.aload_n 0, 1) := by decide +kernel
theorem dX12_sidesOf_16 : decode cX12_sidesOf 16 = .ok (.iload_n 3, 1) := by decide +kernel
theorem dX12_sidesOf_17 : decode cX12_sidesOf 17 = .ok (.iconst 2, 1) := by decide +kernel
theorem dX12_sidesOf_18 : decode cX12_sidesOf 18 = .ok (.idiv, 1) := by decide +kernel
theorem dX12_sidesOf_19 : decode cX12_sidesOf 19 = .ok (.invokevirtual 113, 3) := by decide +kernel
theorem dX12_sidesOf_22 : decode cX12_sidesOf 22 = .ok (.ifCond .ne 21, 3) := by decide +kernel
theorem dX12_sidesOf_25 : decode cX12_sidesOf 25 = .ok (.aload_n 0, 1) := by decide +kernel
theorem dX12_sidesOf_26 : decode cX12_sidesOf 26 = .ok (.iload_n 3, 1) := by decide +kernel
theorem dX12_sidesOf_27 : decode cX12_sidesOf 27 = .ok (.iconst 2, 1) := by decide +kernel
theorem dX12_sidesOf_28 : decode cX12_sidesOf 28 = .ok (.idiv, 1) := by decide +kernel
theorem dX12_sidesOf_29 : decode cX12_sidesOf 29 = .ok (.iload_n 3, 1) := by decide +kernel
theorem dX12_sidesOf_30 : decode cX12_sidesOf 30 = .ok (.iconst 2, 1) := by decide +kernel
theorem dX12_sidesOf_31 : decode cX12_sidesOf 31 = .ok (.irem, 1) := by decide +kernel
theorem dX12_sidesOf_32 : decode cX12_sidesOf 32 = .ok (.invokevirtual 116, 3) := by decide +kernel
theorem dX12_sidesOf_35 : decode cX12_sidesOf 35 = .ok (.iload_n 1, 1) := by decide +kernel
theorem dX12_sidesOf_36 : decode cX12_sidesOf 36 = .ok (.if_icmp .ne 7, 3) := by decide +kernel
theorem dX12_sidesOf_39 : decode cX12_sidesOf 39 = .ok (.iconst 1, 1) := by decide +kernel
theorem dX12_sidesOf_40 : decode cX12_sidesOf 40 = .ok (.goto 4, 3) := by decide +kernel
theorem dX12_sidesOf_43 : decode cX12_sidesOf 43 = .ok (.iconst 0, 1) := by decide +kernel
theorem dX12_sidesOf_44 : decode cX12_sidesOf 44 = .ok (.iadd, 1) := by decide +kernel
theorem dX12_sidesOf_45 : decode cX12_sidesOf 45 = .ok (.istore_n 2, 1) := by decide +kernel
theorem dX12_sidesOf_46 : decode cX12_sidesOf 46 = .ok (.iinc 3 1, 3) := by decide +kernel
theorem dX12_sidesOf_49 : decode cX12_sidesOf 49 = .ok (.goto (-45), 3) := by decide +kernel
theorem dX12_sidesOf_52 : decode cX12_sidesOf 52 = .ok (.iload_n 2, 1) := by decide +kernel
theorem dX12_sidesOf_53 : decode cX12_sidesOf 53 = .ok (.ireturn, 1) := by decide +kernel
theorem dX12_harmsBy_0 : decode cX12_harmsBy 0 = .ok (.iconst 0, 1) := by decide +kernel
theorem dX12_harmsBy_1 : decode cX12_harmsBy 1 = .ok (.istore_n 3, 1) := by decide +kernel
theorem dX12_harmsBy_2 : decode cX12_harmsBy 2 = .ok (.iconst 0, 1) := by decide +kernel
theorem dX12_harmsBy_3 : decode cX12_harmsBy 3 = .ok (.istore 4, 2) := by decide +kernel
theorem dX12_harmsBy_5 : decode cX12_harmsBy 5 = .ok (.iload 4, 2) := by decide +kernel
theorem dX12_harmsBy_7 : decode cX12_harmsBy 7 = .ok (.aload_n 0, 1) := by decide +kernel
theorem dX12_harmsBy_8 : decode cX12_harmsBy 8 = .ok (.getfield 94, 3) := by decide +kernel
theorem dX12_harmsBy_11 : decode cX12_harmsBy 11 = .ok (.if_icmp .ge 32, 3) := by decide +kernel
theorem dX12_harmsBy_14 : decode cX12_harmsBy 14 = .ok (.iload_n 3, 1) := by decide +kernel
theorem dX12_harmsBy_15 : decode cX12_harmsBy 15 = .ok (.aload_n 0, 1) := by decide +kernel
theorem dX12_harmsBy_16 : decode cX12_harmsBy 16 = .ok (.getfield 22, 3) := by decide +kernel
theorem dX12_harmsBy_19 : decode cX12_harmsBy 19 = .ok (.iconst 2, 1) := by decide +kernel
theorem dX12_harmsBy_20 : decode cX12_harmsBy 20 = .ok (.iload 4, 2) := by decide +kernel
theorem dX12_harmsBy_22 : decode cX12_harmsBy 22 = .ok (.imul, 1) := by decide +kernel
theorem dX12_harmsBy_23 : decode cX12_harmsBy 23 = .ok (.iload_n 2, 1) := by decide +kernel
theorem dX12_harmsBy_24 : decode cX12_harmsBy 24 = .ok (.iadd, 1) := by decide +kernel
theorem dX12_harmsBy_25 : decode cX12_harmsBy 25 = .ok (.iaload, 1) := by decide +kernel
theorem dX12_harmsBy_26 : decode cX12_harmsBy 26 = .ok (.iload_n 1, 1) := by decide +kernel
theorem dX12_harmsBy_27 : decode cX12_harmsBy 27 = .ok (.if_icmp .ne 7, 3) := by decide +kernel
theorem dX12_harmsBy_30 : decode cX12_harmsBy 30 = .ok (.iconst 1, 1) := by decide +kernel
theorem dX12_harmsBy_31 : decode cX12_harmsBy 31 = .ok (.goto 4, 3) := by decide +kernel
theorem dX12_harmsBy_34 : decode cX12_harmsBy 34 = .ok (.iconst 0, 1) := by decide +kernel
theorem dX12_harmsBy_35 : decode cX12_harmsBy 35 = .ok (.iadd, 1) := by decide +kernel
theorem dX12_harmsBy_36 : decode cX12_harmsBy 36 = .ok (.istore_n 3, 1) := by decide +kernel
theorem dX12_harmsBy_37 : decode cX12_harmsBy 37 = .ok (.iinc 4 1, 3) := by decide +kernel
theorem dX12_harmsBy_40 : decode cX12_harmsBy 40 = .ok (.goto (-35), 3) := by decide +kernel
theorem dX12_harmsBy_43 : decode cX12_harmsBy 43 = .ok (.iload_n 3, 1) := by decide +kernel
theorem dX12_harmsBy_44 : decode cX12_harmsBy 44 = .ok (.ireturn, 1) := by decide +kernel
theorem dX12_tellMan_0 : decode cX12_tellMan 0 = .ok (.iload_n 2, 1) := by decide +kernel
theorem dX12_tellMan_1 : decode cX12_tellMan 1 = .ok (.tableswitch 65 0 5 #[39, 39, 39, 50, 56, 56], 39) := by decide +kernel
theorem dX12_tellMan_40 : decode cX12_tellMan 40 = .ok (.aload_n 0, 1) := by decide +kernel
theorem dX12_tellMan_41 : decode cX12_tellMan 41 = .ok (.getfield 19, 3) := by decide +kernel
theorem dX12_tellMan_44 : decode cX12_tellMan 44 = .ok (.iconst 3, 1) := by decide +kernel
theorem dX12_tellMan_45 : decode cX12_tellMan 45 = .ok (.iload_n 1, 1) := by decide +kernel
theorem dX12_tellMan_46 : decode cX12_tellMan 46 = .ok (.imul, 1) := by decide +kernel
theorem dX12_tellMan_47 : decode cX12_tellMan 47 = .ok (.iload_n 2, 1) := by decide +kernel
theorem dX12_tellMan_48 : decode cX12_tellMan 48 = .ok (.iadd, 1) := by decide +kernel
theorem dX12_tellMan_49 : decode cX12_tellMan 49 = .ok (.iaload, 1) := by decide +kernel
theorem dX12_tellMan_50 : decode cX12_tellMan 50 = .ok (.ireturn, 1) := by decide +kernel
theorem dX12_tellMan_51 : decode cX12_tellMan 51 = .ok (.aload_n 0, 1) := by decide +kernel
theorem dX12_tellMan_52 : decode cX12_tellMan 52 = .ok (.iload_n 1, 1) := by decide +kernel
theorem dX12_tellMan_53 : decode cX12_tellMan 53 = .ok (.invokevirtual 130, 3) := by decide +kernel
theorem dX12_tellMan_56 : decode cX12_tellMan 56 = .ok (.ireturn, 1) := by decide +kernel
theorem dX12_tellMan_57 : decode cX12_tellMan 57 = .ok (.aload_n 0, 1) := by decide +kernel
theorem dX12_tellMan_58 : decode cX12_tellMan 58 = .ok (.iload_n 1, 1) := by decide +kernel
theorem dX12_tellMan_59 : decode cX12_tellMan 59 = .ok (.iload_n 2, 1) := by decide +kernel
theorem dX12_tellMan_60 : decode cX12_tellMan 60 = .ok (.iconst 4, 1) := by decide +kernel
theorem dX12_tellMan_61 : decode cX12_tellMan 61 = .ok (.isub, 1) := by decide +kernel
theorem dX12_tellMan_62 : decode cX12_tellMan 62 = .ok (.invokevirtual 133, 3) := by decide +kernel
theorem dX12_tellMan_65 : decode cX12_tellMan 65 = .ok (.ireturn, 1) := by decide +kernel
theorem dX12_tellMan_66 : decode cX12_tellMan 66 = .ok (.bipush (-102), 2) := by decide +kernel
theorem dX12_tellMan_68 : decode cX12_tellMan 68 = .ok (.ireturn, 1) := by decide +kernel
theorem dX12_person_0 : decode cX12_person 0 = .ok (.iload_n 1, 1) := by decide +kernel
theorem dX12_person_1 : decode cX12_person 1 = .ok (.invokestatic 103, 3) := by decide +kernel
theorem dX12_person_4 : decode cX12_person 4 = .ok (.ifCond .eq 12, 3) := by decide +kernel
theorem dX12_person_7 : decode cX12_person 7 = .ok (.aload_n 0, 1) := by decide +kernel
theorem dX12_person_8 : decode cX12_person 8 = .ok (.iload_n 1, 1) := by decide +kernel
theorem dX12_person_9 : decode cX12_person 9 = .ok (.iload_n 2, 1) := by decide +kernel
theorem dX12_person_10 : decode cX12_person 10 = .ok (.invokevirtual 136, 3) := by decide +kernel
theorem dX12_person_13 : decode cX12_person 13 = .ok (.goto 5, 3) := by decide +kernel
theorem dX12_person_16 : decode cX12_person 16 = .ok (.bipush (-101), 2) := by decide +kernel
theorem dX12_person_18 : decode cX12_person 18 = .ok (.ireturn, 1) := by decide +kernel
theorem dX12_heir_0 : decode cX12_heir 0 = .ok (.iload_n 1, 1) := by decide +kernel
theorem dX12_heir_1 : decode cX12_heir 1 = .ok (.invokestatic 103, 3) := by decide +kernel
theorem dX12_heir_4 : decode cX12_heir 4 = .ok (.ifCond .eq 20, 3) := by decide +kernel
theorem dX12_heir_7 : decode cX12_heir 7 = .ok (.iload_n 2, 1) := by decide +kernel
theorem dX12_heir_8 : decode cX12_heir 8 = .ok (.iconst (-1), 1) := by decide +kernel
theorem dX12_heir_9 : decode cX12_heir 9 = .ok (.if_icmp .eq 10, 3) := by decide +kernel
theorem dX12_heir_12 : decode cX12_heir 12 = .ok (.iload_n 2, 1) := by decide +kernel
theorem dX12_heir_13 : decode cX12_heir 13 = .ok (.invokestatic 103, 3) := by decide +kernel
theorem dX12_heir_16 : decode cX12_heir 16 = .ok (.ifCond .eq 8, 3) := by decide +kernel
theorem dX12_heir_19 : decode cX12_heir 19 = .ok (.iload_n 1, 1) := by decide +kernel
theorem dX12_heir_20 : decode cX12_heir 20 = .ok (.iload_n 2, 1) := by decide +kernel
theorem dX12_heir_21 : decode cX12_heir 21 = .ok (.if_icmp .ne 6, 3) := by decide +kernel
theorem dX12_heir_24 : decode cX12_heir 24 = .ok (.bipush (-101), 2) := by decide +kernel
theorem dX12_heir_26 : decode cX12_heir 26 = .ok (.ireturn, 1) := by decide +kernel
theorem dX12_heir_27 : decode cX12_heir 27 = .ok (.aload_n 0, 1) := by decide +kernel
theorem dX12_heir_28 : decode cX12_heir 28 = .ok (.invokevirtual 139, 3) := by decide +kernel
theorem dX12_heir_31 : decode cX12_heir 31 = .ok (.ifCond .ne 11, 3) := by decide +kernel
theorem dX12_heir_34 : decode cX12_heir 34 = .ok (.aload_n 0, 1) := by decide +kernel
theorem dX12_heir_35 : decode cX12_heir 35 = .ok (.iload_n 1, 1) := by decide +kernel
theorem dX12_heir_36 : decode cX12_heir 36 = .ok (.invokevirtual 143, 3) := by decide +kernel
theorem dX12_heir_39 : decode cX12_heir 39 = .ok (.ifCond .ne 6, 3) := by decide +kernel
theorem dX12_heir_42 : decode cX12_heir 42 = .ok (.bipush (-103), 2) := by decide +kernel
theorem dX12_heir_44 : decode cX12_heir 44 = .ok (.ireturn, 1) := by decide +kernel
theorem dX12_heir_45 : decode cX12_heir 45 = .ok (.aload_n 0, 1) := by decide +kernel
theorem dX12_heir_46 : decode cX12_heir 46 = .ok (.getfield 19, 3) := by decide +kernel
theorem dX12_heir_49 : decode cX12_heir 49 = .ok (.iconst 3, 1) := by decide +kernel
theorem dX12_heir_50 : decode cX12_heir 50 = .ok (.iload_n 1, 1) := by decide +kernel
theorem dX12_heir_51 : decode cX12_heir 51 = .ok (.imul, 1) := by decide +kernel
theorem dX12_heir_52 : decode cX12_heir 52 = .ok (.iconst 1, 1) := by decide +kernel
theorem dX12_heir_53 : decode cX12_heir 53 = .ok (.iadd, 1) := by decide +kernel
theorem dX12_heir_54 : decode cX12_heir 54 = .ok (.iaload, 1) := by decide +kernel
theorem dX12_heir_55 : decode cX12_heir 55 = .ok (.istore_n 3, 1) := by decide +kernel
theorem dX12_heir_56 : decode cX12_heir 56 = .ok (.aload_n 0, 1) := by decide +kernel
theorem dX12_heir_57 : decode cX12_heir 57 = .ok (.getfield 19, 3) := by decide +kernel
theorem dX12_heir_60 : decode cX12_heir 60 = .ok (.iconst 3, 1) := by decide +kernel
theorem dX12_heir_61 : decode cX12_heir 61 = .ok (.iload_n 1, 1) := by decide +kernel
theorem dX12_heir_62 : decode cX12_heir 62 = .ok (.imul, 1) := by decide +kernel
theorem dX12_heir_63 : decode cX12_heir 63 = .ok (.iconst 1, 1) := by decide +kernel
theorem dX12_heir_64 : decode cX12_heir 64 = .ok (.iadd, 1) := by decide +kernel
theorem dX12_heir_65 : decode cX12_heir 65 = .ok (.iload_n 2, 1) := by decide +kernel
theorem dX12_heir_66 : decode cX12_heir 66 = .ok (.iastore, 1) := by decide +kernel
theorem dX12_heir_67 : decode cX12_heir 67 = .ok (.iload_n 3, 1) := by decide +kernel
theorem dX12_heir_68 : decode cX12_heir 68 = .ok (.ireturn, 1) := by decide +kernel
theorem dX12_capped_0 : decode cX12_capped 0 = .ok (.iload_n 0, 1) := by decide +kernel
theorem dX12_capped_1 : decode cX12_capped 1 = .ok (.bipush 99, 2) := by decide +kernel
theorem dX12_capped_3 : decode cX12_capped 3 = .ok (.if_icmp .le 8, 3) := by decide +kernel
theorem dX12_capped_6 : decode cX12_capped 6 = .ok (.bipush 99, 2) := by decide +kernel
theorem dX12_capped_8 : decode cX12_capped 8 = .ok (.goto 4, 3) := by decide +kernel
theorem dX12_capped_11 : decode cX12_capped 11 = .ok (.iload_n 0, 1) := by decide +kernel
theorem dX12_capped_12 : decode cX12_capped 12 = .ok (.ireturn, 1) := by decide +kernel
theorem dX12_canBuy_0 : decode cX12_canBuy 0 = .ok (.aload_n 0, 1) := by decide +kernel
theorem dX12_canBuy_1 : decode cX12_canBuy 1 = .ok (.iload_n 2, 1) := by decide +kernel
theorem dX12_canBuy_2 : decode cX12_canBuy 2 = .ok (.invokevirtual 113, 3) := by decide +kernel
theorem dX12_canBuy_5 : decode cX12_canBuy 5 = .ok (.ifCond .ne 51, 3) := by decide +kernel
theorem dX12_canBuy_8 : decode cX12_canBuy 8 = .ok (.aload_n 0, 1) := by decide +kernel
theorem dX12_canBuy_9 : decode cX12_canBuy 9 = .ok (.iload_n 2, 1) := by decide +kernel
theorem dX12_canBuy_10 : decode cX12_canBuy 10 = .ok (.iload_n 3, 1) := by decide +kernel
theorem dX12_canBuy_11 : decode cX12_canBuy 11 = .ok (.invokevirtual 106, 3) := by decide +kernel
theorem dX12_canBuy_14 : decode cX12_canBuy 14 = .ok (.iconst (-1), 1) := by decide +kernel
theorem dX12_canBuy_15 : decode cX12_canBuy 15 = .ok (.if_icmp .ne 41, 3) := by decide +kernel
theorem dX12_canBuy_18 : decode cX12_canBuy 18 = .ok (.aload_n 0, 1) := by decide +kernel
theorem dX12_canBuy_19 : decode cX12_canBuy 19 = .ok (.iload_n 1, 1) := by decide +kernel
theorem dX12_canBuy_20 : decode cX12_canBuy 20 = .ok (.invokevirtual 143, 3) := by decide +kernel
theorem dX12_canBuy_23 : decode cX12_canBuy 23 = .ok (.ifCond .eq 33, 3) := by decide +kernel
theorem dX12_canBuy_26 : decode cX12_canBuy 26 = .ok (.aload_n 0, 1) := by decide +kernel
theorem dX12_canBuy_27 : decode cX12_canBuy 27 = .ok (.iload_n 1, 1) := by decide +kernel
theorem dX12_canBuy_28 : decode cX12_canBuy 28 = .ok (.iload_n 2, 1) := by decide +kernel
theorem dX12_canBuy_29 : decode cX12_canBuy 29 = .ok (.invokevirtual 146, 3) := by decide +kernel
theorem dX12_canBuy_32 : decode cX12_canBuy 32 = .ok (.ifCond .ne 24, 3) := by decide +kernel
theorem dX12_canBuy_35 : decode cX12_canBuy 35 = .ok (.aload_n 0, 1) := by decide +kernel
theorem dX12_canBuy_36 : decode cX12_canBuy 36 = .ok (.getfield 19, 3) := by decide +kernel
theorem dX12_canBuy_39 : decode cX12_canBuy 39 = .ok (.iconst 3, 1) := by decide +kernel
theorem dX12_canBuy_40 : decode cX12_canBuy 40 = .ok (.iload_n 1, 1) := by decide +kernel
theorem dX12_canBuy_41 : decode cX12_canBuy 41 = .ok (.imul, 1) := by decide +kernel
theorem dX12_canBuy_42 : decode cX12_canBuy 42 = .ok (.iaload, 1) := by decide +kernel
theorem dX12_canBuy_43 : decode cX12_canBuy 43 = .ok (.aload_n 0, 1) := by decide +kernel
theorem dX12_canBuy_44 : decode cX12_canBuy 44 = .ok (.iload_n 2, 1) := by decide +kernel
theorem dX12_canBuy_45 : decode cX12_canBuy 45 = .ok (.iload_n 3, 1) := by decide +kernel
theorem dX12_canBuy_46 : decode cX12_canBuy 46 = .ok (.invokevirtual 119, 3) := by decide +kernel
theorem dX12_canBuy_49 : decode cX12_canBuy 49 = .ok (.if_icmp .lt 7, 3) := by decide +kernel
theorem dX12_canBuy_52 : decode cX12_canBuy 52 = .ok (.iconst 1, 1) := by decide +kernel
theorem dX12_canBuy_53 : decode cX12_canBuy 53 = .ok (.goto 4, 3) := by decide +kernel
theorem dX12_canBuy_56 : decode cX12_canBuy 56 = .ok (.iconst 0, 1) := by decide +kernel
theorem dX12_canBuy_57 : decode cX12_canBuy 57 = .ok (.ireturn, 1) := by decide +kernel
theorem dX12_bought_0 : decode cX12_bought 0 = .ok (.aload_n 0, 1) := by decide +kernel
theorem dX12_bought_1 : decode cX12_bought 1 = .ok (.iload_n 2, 1) := by decide +kernel
theorem dX12_bought_2 : decode cX12_bought 2 = .ok (.iload_n 3, 1) := by decide +kernel
theorem dX12_bought_3 : decode cX12_bought 3 = .ok (.invokevirtual 119, 3) := by decide +kernel
theorem dX12_bought_6 : decode cX12_bought 6 = .ok (.istore 4, 2) := by decide +kernel
theorem dX12_bought_8 : decode cX12_bought 8 = .ok (.aload_n 0, 1) := by decide +kernel
theorem dX12_bought_9 : decode cX12_bought 9 = .ok (.iload_n 2, 1) := by decide +kernel
theorem dX12_bought_10 : decode cX12_bought 10 = .ok (.iload_n 3, 1) := by decide +kernel
theorem dX12_bought_11 : decode cX12_bought 11 = .ok (.invokevirtual 110, 3) := by decide +kernel
theorem dX12_bought_14 : decode cX12_bought 14 = .ok (.istore 5, 2) := by decide +kernel
theorem dX12_bought_16 : decode cX12_bought 16 = .ok (.aload_n 0, 1) := by decide +kernel
theorem dX12_bought_17 : decode cX12_bought 17 = .ok (.getfield 19, 3) := by decide +kernel
theorem dX12_bought_20 : decode cX12_bought 20 = .ok (.iconst 3, 1) := by decide +kernel
theorem dX12_bought_21 : decode cX12_bought 21 = .ok (.iload_n 1, 1) := by decide +kernel
theorem dX12_bought_22 : decode cX12_bought 22 = .ok (.imul, 1) := by decide +kernel
theorem dX12_bought_23 : decode cX12_bought 23 = .ok (.dup2, 1) := by decide +kernel
theorem dX12_bought_24 : decode cX12_bought 24 = .ok (.iaload, 1) := by decide +kernel
theorem dX12_bought_25 : decode cX12_bought 25 = .ok (.iload 4, 2) := by decide +kernel
theorem dX12_bought_27 : decode cX12_bought 27 = .ok (.isub, 1) := by decide +kernel
theorem dX12_bought_28 : decode cX12_bought 28 = .ok (.iastore, 1) := by decide +kernel
theorem dX12_bought_29 : decode cX12_bought 29 = .ok (.iload 5, 2) := by decide +kernel
theorem dX12_bought_31 : decode cX12_bought 31 = .ok (.iconst (-1), 1) := by decide +kernel
theorem dX12_bought_32 : decode cX12_bought 32 = .ok (.if_icmp .eq 27, 3) := by decide +kernel
theorem dX12_bought_35 : decode cX12_bought 35 = .ok (.aload_n 0, 1) := by decide +kernel
theorem dX12_bought_36 : decode cX12_bought 36 = .ok (.getfield 19, 3) := by decide +kernel
theorem dX12_bought_39 : decode cX12_bought 39 = .ok (.iconst 3, 1) := by decide +kernel
theorem dX12_bought_40 : decode cX12_bought 40 = .ok (.iload 5, 2) := by decide +kernel
theorem dX12_bought_42 : decode cX12_bought 42 = .ok (.imul, 1) := by decide +kernel
theorem dX12_bought_43 : decode cX12_bought 43 = .ok (.aload_n 0, 1) := by decide +kernel
theorem dX12_bought_44 : decode cX12_bought 44 = .ok (.getfield 19, 3) := by decide +kernel
theorem dX12_bought_47 : decode cX12_bought 47 = .ok (.iconst 3, 1) := by decide +kernel
theorem dX12_bought_48 : decode cX12_bought 48 = .ok (.iload 5, 2) := by decide +kernel
theorem dX12_bought_50 : decode cX12_bought 50 = .ok (.imul, 1) := by decide +kernel
theorem dX12_bought_51 : decode cX12_bought 51 = .ok (.iaload, 1) := by decide +kernel
theorem dX12_bought_52 : decode cX12_bought 52 = .ok (.iload 4, 2) := by decide +kernel
theorem dX12_bought_54 : decode cX12_bought 54 = .ok (.iadd, 1) := by decide +kernel
theorem dX12_bought_55 : decode cX12_bought 55 = .ok (.invokestatic 150, 3) := by decide +kernel
theorem dX12_bought_58 : decode cX12_bought 58 = .ok (.iastore, 1) := by decide +kernel
theorem dX12_bought_59 : decode cX12_bought 59 = .ok (.aload_n 0, 1) := by decide +kernel
theorem dX12_bought_60 : decode cX12_bought 60 = .ok (.getfield 16, 3) := by decide +kernel
theorem dX12_bought_63 : decode cX12_bought 63 = .ok (.bipush 7, 2) := by decide +kernel
theorem dX12_bought_65 : decode cX12_bought 65 = .ok (.iload_n 2, 1) := by decide +kernel
theorem dX12_bought_66 : decode cX12_bought 66 = .ok (.imul, 1) := by decide +kernel
theorem dX12_bought_67 : decode cX12_bought 67 = .ok (.iconst 3, 1) := by decide +kernel
theorem dX12_bought_68 : decode cX12_bought 68 = .ok (.iadd, 1) := by decide +kernel
theorem dX12_bought_69 : decode cX12_bought 69 = .ok (.iload_n 3, 1) := by decide +kernel
theorem dX12_bought_70 : decode cX12_bought 70 = .ok (.iadd, 1) := by decide +kernel
theorem dX12_bought_71 : decode cX12_bought 71 = .ok (.iload_n 1, 1) := by decide +kernel
theorem dX12_bought_72 : decode cX12_bought 72 = .ok (.iastore, 1) := by decide +kernel
theorem dX12_bought_73 : decode cX12_bought 73 = .ok (.iload 4, 2) := by decide +kernel
theorem dX12_bought_75 : decode cX12_bought 75 = .ok (.ireturn, 1) := by decide +kernel
theorem dX12_buy_0 : decode cX12_buy 0 = .ok (.iload_n 1, 1) := by decide +kernel
theorem dX12_buy_1 : decode cX12_buy 1 = .ok (.invokestatic 103, 3) := by decide +kernel
theorem dX12_buy_4 : decode cX12_buy 4 = .ok (.ifCond .eq 11, 3) := by decide +kernel
theorem dX12_buy_7 : decode cX12_buy 7 = .ok (.aload_n 0, 1) := by decide +kernel
theorem dX12_buy_8 : decode cX12_buy 8 = .ok (.iload_n 2, 1) := by decide +kernel
theorem dX12_buy_9 : decode cX12_buy 9 = .ok (.invokevirtual 122, 3) := by decide +kernel
theorem dX12_buy_12 : decode cX12_buy 12 = .ok (.ifCond .ne 6, 3) := by decide +kernel
theorem dX12_buy_15 : decode cX12_buy 15 = .ok (.bipush (-101), 2) := by decide +kernel
theorem dX12_buy_17 : decode cX12_buy 17 = .ok (.ireturn, 1) := by decide +kernel
theorem dX12_buy_18 : decode cX12_buy 18 = .ok (.iload_n 3, 1) := by decide +kernel
theorem dX12_buy_19 : decode cX12_buy 19 = .ok (.i2l, 1) := by decide +kernel
theorem dX12_buy_20 : decode cX12_buy 20 = .ok (.lconst 0, 1) := by decide +kernel
theorem dX12_buy_21 : decode cX12_buy 21 = .ok (.lconst 1, 1) := by decide +kernel
theorem dX12_buy_22 : decode cX12_buy 22 = .ok (.invokestatic 62, 3) := by decide +kernel
theorem dX12_buy_25 : decode cX12_buy 25 = .ok (.ifCond .ne 6, 3) := by decide +kernel
theorem dX12_buy_28 : decode cX12_buy 28 = .ok (.bipush (-102), 2) := by decide +kernel
theorem dX12_buy_30 : decode cX12_buy 30 = .ok (.ireturn, 1) := by decide +kernel
theorem dX12_buy_31 : decode cX12_buy 31 = .ok (.aload_n 0, 1) := by decide +kernel
theorem dX12_buy_32 : decode cX12_buy 32 = .ok (.iload_n 1, 1) := by decide +kernel
theorem dX12_buy_33 : decode cX12_buy 33 = .ok (.iload_n 2, 1) := by decide +kernel
theorem dX12_buy_34 : decode cX12_buy 34 = .ok (.iload_n 3, 1) := by decide +kernel
theorem dX12_buy_35 : decode cX12_buy 35 = .ok (.invokevirtual 153, 3) := by decide +kernel
theorem dX12_buy_38 : decode cX12_buy 38 = .ok (.ifCond .eq 13, 3) := by decide +kernel
theorem dX12_buy_41 : decode cX12_buy 41 = .ok (.aload_n 0, 1) := by decide +kernel
theorem dX12_buy_42 : decode cX12_buy 42 = .ok (.iload_n 1, 1) := by decide +kernel
theorem dX12_buy_43 : decode cX12_buy 43 = .ok (.iload_n 2, 1) := by decide +kernel
theorem dX12_buy_44 : decode cX12_buy 44 = .ok (.iload_n 3, 1) := by decide +kernel
theorem dX12_buy_45 : decode cX12_buy 45 = .ok (.invokevirtual 157, 3) := by decide +kernel
theorem dX12_buy_48 : decode cX12_buy 48 = .ok (.goto 5, 3) := by decide +kernel
theorem dX12_buy_51 : decode cX12_buy 51 = .ok (.bipush (-103), 2) := by decide +kernel
theorem dX12_buy_53 : decode cX12_buy 53 = .ok (.ireturn, 1) := by decide +kernel
theorem dX12_lend_0 : decode cX12_lend 0 = .ok (.aload_n 0, 1) := by decide +kernel
theorem dX12_lend_1 : decode cX12_lend 1 = .ok (.iload_n 1, 1) := by decide +kernel
theorem dX12_lend_2 : decode cX12_lend 2 = .ok (.invokevirtual 122, 3) := by decide +kernel
theorem dX12_lend_5 : decode cX12_lend 5 = .ok (.ifCond .eq 10, 3) := by decide +kernel
theorem dX12_lend_8 : decode cX12_lend 8 = .ok (.iload_n 3, 1) := by decide +kernel
theorem dX12_lend_9 : decode cX12_lend 9 = .ok (.invokestatic 103, 3) := by decide +kernel
theorem dX12_lend_12 : decode cX12_lend 12 = .ok (.ifCond .ne 6, 3) := by decide +kernel
theorem dX12_lend_15 : decode cX12_lend 15 = .ok (.bipush (-101), 2) := by decide +kernel
theorem dX12_lend_17 : decode cX12_lend 17 = .ok (.ireturn, 1) := by decide +kernel
theorem dX12_lend_18 : decode cX12_lend 18 = .ok (.iload_n 2, 1) := by decide +kernel
theorem dX12_lend_19 : decode cX12_lend 19 = .ok (.i2l, 1) := by decide +kernel
theorem dX12_lend_20 : decode cX12_lend 20 = .ok (.lconst 0, 1) := by decide +kernel
theorem dX12_lend_21 : decode cX12_lend 21 = .ok (.lconst 1, 1) := by decide +kernel
theorem dX12_lend_22 : decode cX12_lend 22 = .ok (.invokestatic 62, 3) := by decide +kernel
theorem dX12_lend_25 : decode cX12_lend 25 = .ok (.ifCond .ne 6, 3) := by decide +kernel
theorem dX12_lend_28 : decode cX12_lend 28 = .ok (.bipush (-102), 2) := by decide +kernel
theorem dX12_lend_30 : decode cX12_lend 30 = .ok (.ireturn, 1) := by decide +kernel
theorem dX12_lend_31 : decode cX12_lend 31 = .ok (.aload_n 0, 1) := by decide +kernel
theorem dX12_lend_32 : decode cX12_lend 32 = .ok (.getfield 16, 3) := by decide +kernel
theorem dX12_lend_35 : decode cX12_lend 35 = .ok (.bipush 7, 2) := by decide +kernel
theorem dX12_lend_37 : decode cX12_lend 37 = .ok (.iload_n 1, 1) := by decide +kernel
theorem dX12_lend_38 : decode cX12_lend 38 = .ok (.imul, 1) := by decide +kernel
theorem dX12_lend_39 : decode cX12_lend 39 = .ok (.iaload, 1) := by decide +kernel
theorem dX12_lend_40 : decode cX12_lend 40 = .ok (.istore 4, 2) := by decide +kernel
theorem dX12_lend_42 : decode cX12_lend 42 = .ok (.aload_n 0, 1) := by decide +kernel
theorem dX12_lend_43 : decode cX12_lend 43 = .ok (.iload_n 1, 1) := by decide +kernel
theorem dX12_lend_44 : decode cX12_lend 44 = .ok (.invokevirtual 113, 3) := by decide +kernel
theorem dX12_lend_47 : decode cX12_lend 47 = .ok (.ifCond .ne 39, 3) := by decide +kernel
theorem dX12_lend_50 : decode cX12_lend 50 = .ok (.iload 4, 2) := by decide +kernel
theorem dX12_lend_52 : decode cX12_lend 52 = .ok (.iconst 1, 1) := by decide +kernel
theorem dX12_lend_53 : decode cX12_lend 53 = .ok (.if_icmp .eq 9, 3) := by decide +kernel
theorem dX12_lend_56 : decode cX12_lend 56 = .ok (.iload 4, 2) := by decide +kernel
theorem dX12_lend_58 : decode cX12_lend 58 = .ok (.iconst 2, 1) := by decide +kernel
theorem dX12_lend_59 : decode cX12_lend 59 = .ok (.if_icmp .le 27, 3) := by decide +kernel
theorem dX12_lend_62 : decode cX12_lend 62 = .ok (.aload_n 0, 1) := by decide +kernel
theorem dX12_lend_63 : decode cX12_lend 63 = .ok (.iload_n 1, 1) := by decide +kernel
theorem dX12_lend_64 : decode cX12_lend 64 = .ok (.iload_n 2, 1) := by decide +kernel
theorem dX12_lend_65 : decode cX12_lend 65 = .ok (.invokevirtual 110, 3) := by decide +kernel
theorem dX12_lend_68 : decode cX12_lend 68 = .ok (.iconst (-1), 1) := by decide +kernel
theorem dX12_lend_69 : decode cX12_lend 69 = .ok (.if_icmp .eq 17, 3) := by decide +kernel
theorem dX12_lend_72 : decode cX12_lend 72 = .ok (.aload_n 0, 1) := by decide +kernel
theorem dX12_lend_73 : decode cX12_lend 73 = .ok (.iload_n 1, 1) := by decide +kernel
theorem dX12_lend_74 : decode cX12_lend 74 = .ok (.iload_n 2, 1) := by decide +kernel
theorem dX12_lend_75 : decode cX12_lend 75 = .ok (.invokevirtual 106, 3) := by decide +kernel
theorem dX12_lend_78 : decode cX12_lend 78 = .ok (.iconst (-1), 1) := by decide +kernel
theorem dX12_lend_79 : decode cX12_lend 79 = .ok (.if_icmp .ne 7, 3) := by decide +kernel
theorem dX12_lend_82 : decode cX12_lend 82 = .ok (.iconst 1, 1) := by decide +kernel
theorem dX12_lend_83 : decode cX12_lend 83 = .ok (.goto 4, 3) := by decide +kernel
theorem dX12_lend_86 : decode cX12_lend 86 = .ok (.iconst 0, 1) := by decide +kernel
theorem dX12_lend_87 : decode cX12_lend 87 = .ok (.istore 5, 2) := by decide +kernel
theorem dX12_lend_89 : decode cX12_lend 89 = .ok (.iload 5, 2) := by decide +kernel
theorem dX12_lend_91 : decode cX12_lend 91 = .ok (.ifCond .eq 20, 3) := by decide +kernel
theorem dX12_lend_94 : decode cX12_lend 94 = .ok (.aload_n 0, 1) := by decide +kernel
theorem dX12_lend_95 : decode cX12_lend 95 = .ok (.iload_n 3, 1) := by decide +kernel
theorem dX12_lend_96 : decode cX12_lend 96 = .ok (.invokevirtual 143, 3) := by decide +kernel
theorem dX12_lend_99 : decode cX12_lend 99 = .ok (.ifCond .eq 12, 3) := by decide +kernel
theorem dX12_lend_102 : decode cX12_lend 102 = .ok (.aload_n 0, 1) := by decide +kernel
theorem dX12_lend_103 : decode cX12_lend 103 = .ok (.iload_n 3, 1) := by decide +kernel
theorem dX12_lend_104 : decode cX12_lend 104 = .ok (.iload_n 1, 1) := by decide +kernel
theorem dX12_lend_105 : decode cX12_lend 105 = .ok (.invokevirtual 146, 3) := by decide +kernel
theorem dX12_lend_108 : decode cX12_lend 108 = .ok (.ifCond .eq 6, 3) := by decide +kernel
theorem dX12_lend_111 : decode cX12_lend 111 = .ok (.bipush (-103), 2) := by decide +kernel
theorem dX12_lend_113 : decode cX12_lend 113 = .ok (.ireturn, 1) := by decide +kernel
theorem dX12_lend_114 : decode cX12_lend 114 = .ok (.aload_n 0, 1) := by decide +kernel
theorem dX12_lend_115 : decode cX12_lend 115 = .ok (.getfield 16, 3) := by decide +kernel
theorem dX12_lend_118 : decode cX12_lend 118 = .ok (.bipush 7, 2) := by decide +kernel
theorem dX12_lend_120 : decode cX12_lend 120 = .ok (.iload_n 1, 1) := by decide +kernel
theorem dX12_lend_121 : decode cX12_lend 121 = .ok (.imul, 1) := by decide +kernel
theorem dX12_lend_122 : decode cX12_lend 122 = .ok (.iconst 5, 1) := by decide +kernel
theorem dX12_lend_123 : decode cX12_lend 123 = .ok (.iadd, 1) := by decide +kernel
theorem dX12_lend_124 : decode cX12_lend 124 = .ok (.iload_n 2, 1) := by decide +kernel
theorem dX12_lend_125 : decode cX12_lend 125 = .ok (.iadd, 1) := by decide +kernel
theorem dX12_lend_126 : decode cX12_lend 126 = .ok (.iload_n 3, 1) := by decide +kernel
theorem dX12_lend_127 : decode cX12_lend 127 = .ok (.iastore, 1) := by decide +kernel
theorem dX12_lend_128 : decode cX12_lend 128 = .ok (.aload_n 0, 1) := by decide +kernel
theorem dX12_lend_129 : decode cX12_lend 129 = .ok (.iload_n 1, 1) := by decide +kernel
theorem dX12_lend_130 : decode cX12_lend 130 = .ok (.iload_n 2, 1) := by decide +kernel
theorem dX12_lend_131 : decode cX12_lend 131 = .ok (.invokevirtual 110, 3) := by decide +kernel
theorem dX12_lend_134 : decode cX12_lend 134 = .ok (.ireturn, 1) := by decide +kernel
theorem dX12_struckMany_0 : decode cX12_struckMany 0 = .ok (.iconst 0, 1) := by decide +kernel
theorem dX12_struckMany_1 : decode cX12_struckMany 1 = .ok (.istore_n 1, 1) := by decide +kernel
theorem dX12_struckMany_2 : decode cX12_struckMany 2 = .ok (.iconst 0, 1) := by decide +kernel
theorem dX12_struckMany_3 : decode cX12_struckMany 3 = .ok (.istore_n 2, 1) := by decide +kernel
theorem dX12_struckMany_4 : decode cX12_struckMany 4 = .ok (.iload_n 2, 1) := by decide +kernel
theorem dX12_struckMany_5 : decode cX12_struckMany 5 = .ok (.aload_n 0, 1) := by decide +kernel
theorem dX12_struckMany_6 : decode cX12_struckMany 6 = .ok (.getfield 91, 3) := by decide +kernel
theorem dX12_struckMany_9 : decode cX12_struckMany 9 = .ok (.if_icmp .ge 23, 3) := by decide +kernel
theorem dX12_struckMany_12 : decode cX12_struckMany 12 = .ok (.iload_n 1, 1) := by decide +kernel
theorem dX12_struckMany_13 : decode cX12_struckMany 13 = .ok (.aload_n 0, 1) := by decide +kernel
theorem dX12_struckMany_14 : decode cX12_struckMany 14 = .ok (.getfield 16, 3) := by decide +kernel
theorem dX12_struckMany_17 : decode cX12_struckMany 17 = .ok (.bipush 7, 2) := by decide +kernel
theorem dX12_struckMany_19 : decode cX12_struckMany 19 = .ok (.iload_n 2, 1) := by decide +kernel
theorem dX12_struckMany_20 : decode cX12_struckMany 20 = .ok (.imul, 1) := by decide +kernel
theorem dX12_struckMany_21 : decode cX12_struckMany 21 = .ok (.iconst 2, 1) := by decide +kernel
theorem dX12_struckMany_22 : decode cX12_struckMany 22 = .ok (.iadd, 1) := by decide +kernel
theorem dX12_struckMany_23 : decode cX12_struckMany 23 = .ok (.iaload, 1) := by decide +kernel
theorem dX12_struckMany_24 : decode cX12_struckMany 24 = .ok (.iadd, 1) := by decide +kernel
theorem dX12_struckMany_25 : decode cX12_struckMany 25 = .ok (.istore_n 1, 1) := by decide +kernel
theorem dX12_struckMany_26 : decode cX12_struckMany 26 = .ok (.iinc 2 1, 3) := by decide +kernel
theorem dX12_struckMany_29 : decode cX12_struckMany 29 = .ok (.goto (-25), 3) := by decide +kernel
theorem dX12_struckMany_32 : decode cX12_struckMany 32 = .ok (.iload_n 1, 1) := by decide +kernel
theorem dX12_struckMany_33 : decode cX12_struckMany 33 = .ok (.ireturn, 1) := by decide +kernel
theorem dX12_peace_0 : decode cX12_peace 0 = .ok (.aload_n 0, 1) := by decide +kernel
theorem dX12_peace_1 : decode cX12_peace 1 = .ok (.iload_n 1, 1) := by decide +kernel
theorem dX12_peace_2 : decode cX12_peace 2 = .ok (.invokevirtual 122, 3) := by decide +kernel
theorem dX12_peace_5 : decode cX12_peace 5 = .ok (.ifCond .ne 6, 3) := by decide +kernel
theorem dX12_peace_8 : decode cX12_peace 8 = .ok (.bipush (-101), 2) := by decide +kernel
theorem dX12_peace_10 : decode cX12_peace 10 = .ok (.ireturn, 1) := by decide +kernel
theorem dX12_peace_11 : decode cX12_peace 11 = .ok (.iconst 0, 1) := by decide +kernel
theorem dX12_peace_12 : decode cX12_peace 12 = .ok (.istore_n 2, 1) := by decide +kernel
theorem dX12_peace_13 : decode cX12_peace 13 = .ok (.iconst 0, 1) := by decide +kernel
theorem dX12_peace_14 : decode cX12_peace 14 = .ok (.istore_n 3, 1) := by decide +kernel
theorem dX12_peace_15 : decode cX12_peace 15 = .ok (.iconst 0, 1) := by decide +kernel
theorem dX12_peace_16 : decode cX12_peace 16 = .ok (.istore 4, 2) := by decide +kernel
theorem dX12_peace_18 : decode cX12_peace 18 = .ok (.iload 4, 2) := by decide +kernel
theorem dX12_peace_20 : decode cX12_peace 20 = .ok (.iconst 2, 1) := by decide +kernel
theorem dX12_peace_21 : decode cX12_peace 21 = .ok (.if_icmp .ge 47, 3) := by decide +kernel
theorem dX12_peace_24 : decode cX12_peace 24 = .ok (.iload_n 2, 1) := by decide +kernel
theorem dX12_peace_25 : decode cX12_peace 25 = .ok (.aload_n 0, 1) := by decide +kernel
theorem dX12_peace_26 : decode cX12_peace 26 = .ok (.iload_n 1, 1) := by decide +kernel
theorem dX12_peace_27 : decode cX12_peace 27 = .ok (.iload 4, 2) := by decide +kernel
theorem dX12_peace_29 : decode cX12_peace 29 = .ok (.invokevirtual 110, 3) := by decide +kernel
theorem dX12_peace_32 : decode cX12_peace 32 = .ok (.iconst (-1), 1) := by decide +kernel
theorem dX12_peace_33 : decode cX12_peace 33 = .ok (.if_icmp .ne 7, 3) := by decide +kernel
theorem dX12_peace_36 : decode cX12_peace 36 = .ok (.iconst 1, 1) := by decide +kernel
theorem dX12_peace_37 : decode cX12_peace 37 = .ok (.goto 4, 3) := by decide +kernel
theorem dX12_peace_40 : decode cX12_peace 40 = .ok (.iconst 0, 1) := by decide +kernel
theorem dX12_peace_41 : decode cX12_peace 41 = .ok (.iadd, 1) := by decide +kernel
theorem dX12_peace_42 : decode cX12_peace 42 = .ok (.istore_n 2, 1) := by decide +kernel
theorem dX12_peace_43 : decode cX12_peace 43 = .ok (.iload_n 3, 1) := by decide +kernel
theorem dX12_peace_44 : decode cX12_peace 44 = .ok (.aload_n 0, 1) := by decide +kernel
theorem dX12_peace_45 : decode cX12_peace 45 = .ok (.iload_n 1, 1) := by decide +kernel
theorem dX12_peace_46 : decode cX12_peace 46 = .ok (.iload 4, 2) := by decide +kernel
theorem dX12_peace_48 : decode cX12_peace 48 = .ok (.invokevirtual 106, 3) := by decide +kernel
theorem dX12_peace_51 : decode cX12_peace 51 = .ok (.iconst (-1), 1) := by decide +kernel
theorem dX12_peace_52 : decode cX12_peace 52 = .ok (.if_icmp .ne 7, 3) := by decide +kernel
theorem dX12_peace_55 : decode cX12_peace 55 = .ok (.iconst 0, 1) := by decide +kernel
theorem dX12_peace_56 : decode cX12_peace 56 = .ok (.goto 4, 3) := by decide +kernel
theorem dX12_peace_59 : decode cX12_peace 59 = .ok (.iconst 1, 1) := by decide +kernel
theorem dX12_peace_60 : decode cX12_peace 60 = .ok (.iadd, 1) := by decide +kernel
theorem dX12_peace_61 : decode cX12_peace 61 = .ok (.istore_n 3, 1) := by decide +kernel
theorem dX12_peace_62 : decode cX12_peace 62 = .ok (.iinc 4 1, 3) := by decide +kernel
theorem dX12_peace_65 : decode cX12_peace 65 = .ok (.goto (-47), 3) := by decide +kernel
theorem dX12_peace_68 : decode cX12_peace 68 = .ok (.aload_n 0, 1) := by decide +kernel
theorem dX12_peace_69 : decode cX12_peace 69 = .ok (.iload_n 1, 1) := by decide +kernel
theorem dX12_peace_70 : decode cX12_peace 70 = .ok (.invokevirtual 113, 3) := by decide +kernel
theorem dX12_peace_73 : decode cX12_peace 73 = .ok (.ifCond .ne 29, 3) := by decide +kernel
theorem dX12_peace_76 : decode cX12_peace 76 = .ok (.iload_n 3, 1) := by decide +kernel
theorem dX12_peace_77 : decode cX12_peace 77 = .ok (.ifCond .gt 25, 3) := by decide +kernel
theorem dX12_peace_80 : decode cX12_peace 80 = .ok (.iload_n 2, 1) := by decide +kernel
theorem dX12_peace_81 : decode cX12_peace 81 = .ok (.aload_n 0, 1) := by decide +kernel
theorem dX12_peace_82 : decode cX12_peace 82 = .ok (.getfield 16, 3) := by decide +kernel
theorem dX12_peace_85 : decode cX12_peace 85 = .ok (.bipush 7, 2) := by decide +kernel
theorem dX12_peace_87 : decode cX12_peace 87 = .ok (.iload_n 1, 1) := by decide +kernel
theorem dX12_peace_88 : decode cX12_peace 88 = .ok (.imul, 1) := by decide +kernel
theorem dX12_peace_89 : decode cX12_peace 89 = .ok (.iaload, 1) := by decide +kernel
theorem dX12_peace_90 : decode cX12_peace 90 = .ok (.iconst 2, 1) := by decide +kernel
theorem dX12_peace_91 : decode cX12_peace 91 = .ok (.if_icmp .ne 7, 3) := by decide +kernel
theorem dX12_peace_94 : decode cX12_peace 94 = .ok (.iconst 1, 1) := by decide +kernel
theorem dX12_peace_95 : decode cX12_peace 95 = .ok (.goto 4, 3) := by decide +kernel
theorem dX12_peace_98 : decode cX12_peace 98 = .ok (.iconst 0, 1) := by decide +kernel
theorem dX12_peace_99 : decode cX12_peace 99 = .ok (.if_icmp .le 6, 3) := by decide +kernel
theorem dX12_peace_102 : decode cX12_peace 102 = .ok (.bipush (-103), 2) := by decide +kernel
theorem dX12_peace_104 : decode cX12_peace 104 = .ok (.ireturn, 1) := by decide +kernel
theorem dX12_peace_105 : decode cX12_peace 105 = .ok (.aload_n 0, 1) := by decide +kernel
theorem dX12_peace_106 : decode cX12_peace 106 = .ok (.getfield 16, 3) := by decide +kernel
theorem dX12_peace_109 : decode cX12_peace 109 = .ok (.bipush 7, 2) := by decide +kernel
theorem dX12_peace_111 : decode cX12_peace 111 = .ok (.iload_n 1, 1) := by decide +kernel
theorem dX12_peace_112 : decode cX12_peace 112 = .ok (.imul, 1) := by decide +kernel
theorem dX12_peace_113 : decode cX12_peace 113 = .ok (.iconst 2, 1) := by decide +kernel
theorem dX12_peace_114 : decode cX12_peace 114 = .ok (.iadd, 1) := by decide +kernel
theorem dX12_peace_115 : decode cX12_peace 115 = .ok (.iconst 1, 1) := by decide +kernel
theorem dX12_peace_116 : decode cX12_peace 116 = .ok (.iastore, 1) := by decide +kernel
theorem dX12_peace_117 : decode cX12_peace 117 = .ok (.aload_n 0, 1) := by decide +kernel
theorem dX12_peace_118 : decode cX12_peace 118 = .ok (.getfield 16, 3) := by decide +kernel
theorem dX12_peace_121 : decode cX12_peace 121 = .ok (.bipush 7, 2) := by decide +kernel
theorem dX12_peace_123 : decode cX12_peace 123 = .ok (.iload_n 1, 1) := by decide +kernel
theorem dX12_peace_124 : decode cX12_peace 124 = .ok (.imul, 1) := by decide +kernel
theorem dX12_peace_125 : decode cX12_peace 125 = .ok (.iconst 3, 1) := by decide +kernel
theorem dX12_peace_126 : decode cX12_peace 126 = .ok (.iadd, 1) := by decide +kernel
theorem dX12_peace_127 : decode cX12_peace 127 = .ok (.iconst (-1), 1) := by decide +kernel
theorem dX12_peace_128 : decode cX12_peace 128 = .ok (.iastore, 1) := by decide +kernel
theorem dX12_peace_129 : decode cX12_peace 129 = .ok (.aload_n 0, 1) := by decide +kernel
theorem dX12_peace_130 : decode cX12_peace 130 = .ok (.getfield 16, 3) := by decide +kernel
theorem dX12_peace_133 : decode cX12_peace 133 = .ok (.bipush 7, 2) := by decide +kernel
theorem dX12_peace_135 : decode cX12_peace 135 = .ok (.iload_n 1, 1) := by decide +kernel
theorem dX12_peace_136 : decode cX12_peace 136 = .ok (.imul, 1) := by decide +kernel
theorem dX12_peace_137 : decode cX12_peace 137 = .ok (.iconst 4, 1) := by decide +kernel
theorem dX12_peace_138 : decode cX12_peace 138 = .ok (.iadd, 1) := by decide +kernel
theorem dX12_peace_139 : decode cX12_peace 139 = .ok (.iconst (-1), 1) := by decide +kernel
theorem dX12_peace_140 : decode cX12_peace 140 = .ok (.iastore, 1) := by decide +kernel
theorem dX12_peace_141 : decode cX12_peace 141 = .ok (.aload_n 0, 1) := by decide +kernel
theorem dX12_peace_142 : decode cX12_peace 142 = .ok (.invokevirtual 161, 3) := by decide +kernel
theorem dX12_peace_145 : decode cX12_peace 145 = .ok (.ireturn, 1) := by decide +kernel
theorem dX12_heirOf_0 : decode cX12_heirOf 0 = .ok (.iconst 1, 1) := by decide +kernel
theorem dX12_heirOf_1 : decode cX12_heirOf 1 = .ok (.iload_n 1, 1) := by decide +kernel
theorem dX12_heirOf_2 : decode cX12_heirOf 2 = .ok (.ishl, 1) := by decide +kernel
theorem dX12_heirOf_3 : decode cX12_heirOf 3 = .ok (.istore_n 2, 1) := by decide +kernel
theorem dX12_heirOf_4 : decode cX12_heirOf 4 = .ok (.aload_n 0, 1) := by decide +kernel
theorem dX12_heirOf_5 : decode cX12_heirOf 5 = .ok (.getfield 19, 3) := by decide +kernel
theorem dX12_heirOf_8 : decode cX12_heirOf 8 = .ok (.iconst 3, 1) := by decide +kernel
theorem dX12_heirOf_9 : decode cX12_heirOf 9 = .ok (.iload_n 1, 1) := by decide +kernel
theorem dX12_heirOf_10 : decode cX12_heirOf 10 = .ok (.imul, 1) := by decide +kernel
theorem dX12_heirOf_11 : decode cX12_heirOf 11 = .ok (.iconst 1, 1) := by decide +kernel
theorem dX12_heirOf_12 : decode cX12_heirOf 12 = .ok (.iadd, 1) := by decide +kernel
theorem dX12_heirOf_13 : decode cX12_heirOf 13 = .ok (.iaload, 1) := by decide +kernel
theorem dX12_heirOf_14 : decode cX12_heirOf 14 = .ok (.istore_n 3, 1) := by decide +kernel
theorem dX12_heirOf_15 : decode cX12_heirOf 15 = .ok (.iload_n 3, 1) := by decide +kernel
theorem dX12_heirOf_16 : decode cX12_heirOf 16 = .ok (.iconst (-1), 1) := by decide +kernel
theorem dX12_heirOf_17 : decode cX12_heirOf 17 = .ok (.if_icmp .eq 39, 3) := by decide +kernel
theorem dX12_heirOf_20 : decode cX12_heirOf 20 = .ok (.iload_n 2, 1) := by decide +kernel
theorem dX12_heirOf_21 : decode cX12_heirOf 21 = .ok (.iload_n 3, 1) := by decide +kernel
theorem dX12_heirOf_22 : decode cX12_heirOf 22 = .ok (.ishr, 1) := by decide +kernel
theorem dX12_heirOf_23 : decode cX12_heirOf 23 = .ok (.iconst 1, 1) := by decide +kernel
theorem dX12_heirOf_24 : decode cX12_heirOf 24 = .ok (.iand, 1) := by decide +kernel
theorem dX12_heirOf_25 : decode cX12_heirOf 25 = .ok (.ifCond .ne 31, 3) := by decide +kernel
theorem dX12_heirOf_28 : decode cX12_heirOf 28 = .ok (.aload_n 0, 1) := by decide +kernel
theorem dX12_heirOf_29 : decode cX12_heirOf 29 = .ok (.iload_n 3, 1) := by decide +kernel
theorem dX12_heirOf_30 : decode cX12_heirOf 30 = .ok (.invokevirtual 143, 3) := by decide +kernel
theorem dX12_heirOf_33 : decode cX12_heirOf 33 = .ok (.ifCond .ne 23, 3) := by decide +kernel
theorem dX12_heirOf_36 : decode cX12_heirOf 36 = .ok (.iload_n 2, 1) := by decide +kernel
theorem dX12_heirOf_37 : decode cX12_heirOf 37 = .ok (.iconst 1, 1) := by decide +kernel
theorem dX12_heirOf_38 : decode cX12_heirOf 38 = .ok (.iload_n 3, 1) := by decide +kernel
theorem dX12_heirOf_39 : decode cX12_heirOf 39 = .ok (.ishl, 1) := by decide +kernel
theorem dX12_heirOf_40 : decode cX12_heirOf 40 = .ok (.ior, 1) := by decide +kernel
theorem dX12_heirOf_41 : decode cX12_heirOf 41 = .ok (.istore_n 2, 1) := by decide +kernel
theorem dX12_heirOf_42 : decode cX12_heirOf 42 = .ok (.aload_n 0, 1) := by decide +kernel
theorem dX12_heirOf_43 : decode cX12_heirOf 43 = .ok (.getfield 19, 3) := by decide +kernel
theorem dX12_heirOf_46 : decode cX12_heirOf 46 = .ok (.iconst 3, 1) := by decide +kernel
theorem dX12_heirOf_47 : decode cX12_heirOf 47 = .ok (.iload_n 3, 1) := by decide +kernel
theorem dX12_heirOf_48 : decode cX12_heirOf 48 = .ok (.imul, 1) := by decide +kernel
theorem dX12_heirOf_49 : decode cX12_heirOf 49 = .ok (.iconst 1, 1) := by decide +kernel
theorem dX12_heirOf_50 : decode cX12_heirOf 50 = .ok (.iadd, 1) := by decide +kernel
theorem dX12_heirOf_51 : decode cX12_heirOf 51 = .ok (.iaload, 1) := by decide +kernel
theorem dX12_heirOf_52 : decode cX12_heirOf 52 = .ok (.istore_n 3, 1) := by decide +kernel
theorem dX12_heirOf_53 : decode cX12_heirOf 53 = .ok (.goto (-38), 3) := by decide +kernel
theorem dX12_heirOf_56 : decode cX12_heirOf 56 = .ok (.iload_n 3, 1) := by decide +kernel
theorem dX12_heirOf_57 : decode cX12_heirOf 57 = .ok (.iconst (-1), 1) := by decide +kernel
theorem dX12_heirOf_58 : decode cX12_heirOf 58 = .ok (.if_icmp .eq 12, 3) := by decide +kernel
theorem dX12_heirOf_61 : decode cX12_heirOf 61 = .ok (.iload_n 2, 1) := by decide +kernel
theorem dX12_heirOf_62 : decode cX12_heirOf 62 = .ok (.iload_n 3, 1) := by decide +kernel
theorem dX12_heirOf_63 : decode cX12_heirOf 63 = .ok (.ishr, 1) := by decide +kernel
theorem dX12_heirOf_64 : decode cX12_heirOf 64 = .ok (.iconst 1, 1) := by decide +kernel
theorem dX12_heirOf_65 : decode cX12_heirOf 65 = .ok (.iand, 1) := by decide +kernel
theorem dX12_heirOf_66 : decode cX12_heirOf 66 = .ok (.iconst 1, 1) := by decide +kernel
theorem dX12_heirOf_67 : decode cX12_heirOf 67 = .ok (.if_icmp .ne 7, 3) := by decide +kernel
theorem dX12_heirOf_70 : decode cX12_heirOf 70 = .ok (.iconst (-1), 1) := by decide +kernel
theorem dX12_heirOf_71 : decode cX12_heirOf 71 = .ok (.goto 4, 3) := by decide +kernel
theorem dX12_heirOf_74 : decode cX12_heirOf 74 = .ok (.iload_n 3, 1) := by decide +kernel
theorem dX12_heirOf_75 : decode cX12_heirOf 75 = .ok (.ireturn, 1) := by decide +kernel
theorem dX12_died_0 : decode cX12_died 0 = .ok (.iconst 0, 1) := by decide +kernel
theorem dX12_died_1 : decode cX12_died 1 = .ok (.istore_n 2, 1) := by decide +kernel
theorem dX12_died_2 : decode cX12_died 2 = .ok (.iload_n 2, 1) := by decide +kernel
theorem dX12_died_3 : decode cX12_died 3 = .ok (.iconst 2, 1) := by decide +kernel
theorem dX12_died_4 : decode cX12_died 4 = .ok (.aload_n 0, 1) := by decide +kernel
theorem dX12_died_5 : decode cX12_died 5 = .ok (.getfield 91, 3) := by decide +kernel
theorem dX12_died_8 : decode cX12_died 8 = .ok (.imul, 1) := by decide +kernel
theorem dX12_died_9 : decode cX12_died 9 = .ok (.if_icmp .ge 72, 3) := by decide +kernel
theorem dX12_died_12 : decode cX12_died 12 = .ok (.bipush 7, 2) := by decide +kernel
theorem dX12_died_14 : decode cX12_died 14 = .ok (.iload_n 2, 1) := by decide +kernel
theorem dX12_died_15 : decode cX12_died 15 = .ok (.iconst 2, 1) := by decide +kernel
theorem dX12_died_16 : decode cX12_died 16 = .ok (.idiv, 1) := by decide +kernel
theorem dX12_died_17 : decode cX12_died 17 = .ok (.imul, 1) := by decide +kernel
theorem dX12_died_18 : decode cX12_died 18 = .ok (.iconst 5, 1) := by decide +kernel
theorem dX12_died_19 : decode cX12_died 19 = .ok (.iadd, 1) := by decide +kernel
theorem dX12_died_20 : decode cX12_died 20 = .ok (.iload_n 2, 1) := by decide +kernel
theorem dX12_died_21 : decode cX12_died 21 = .ok (.iconst 2, 1) := by decide +kernel
theorem dX12_died_22 : decode cX12_died 22 = .ok (.irem, 1) := by decide +kernel
theorem dX12_died_23 : decode cX12_died 23 = .ok (.iadd, 1) := by decide +kernel
theorem dX12_died_24 : decode cX12_died 24 = .ok (.istore_n 3, 1) := by decide +kernel
theorem dX12_died_25 : decode cX12_died 25 = .ok (.aload_n 0, 1) := by decide +kernel
theorem dX12_died_26 : decode cX12_died 26 = .ok (.getfield 16, 3) := by decide +kernel
theorem dX12_died_29 : decode cX12_died 29 = .ok (.iload_n 3, 1) := by decide +kernel
theorem dX12_died_30 : decode cX12_died 30 = .ok (.iaload, 1) := by decide +kernel
theorem dX12_died_31 : decode cX12_died 31 = .ok (.iload_n 1, 1) := by decide +kernel
theorem dX12_died_32 : decode cX12_died 32 = .ok (.if_icmp .eq 15, 3) := by decide +kernel
theorem dX12_died_35 : decode cX12_died 35 = .ok (.aload_n 0, 1) := by decide +kernel
theorem dX12_died_36 : decode cX12_died 36 = .ok (.getfield 16, 3) := by decide +kernel
theorem dX12_died_39 : decode cX12_died 39 = .ok (.iload_n 3, 1) := by decide +kernel
theorem dX12_died_40 : decode cX12_died 40 = .ok (.iconst 2, 1) := by decide +kernel
theorem dX12_died_41 : decode cX12_died 41 = .ok (.isub, 1) := by decide +kernel
theorem dX12_died_42 : decode cX12_died 42 = .ok (.iaload, 1) := by decide +kernel
theorem dX12_died_43 : decode cX12_died 43 = .ok (.iload_n 1, 1) := by decide +kernel
theorem dX12_died_44 : decode cX12_died 44 = .ok (.if_icmp .ne 7, 3) := by decide +kernel
theorem dX12_died_47 : decode cX12_died 47 = .ok (.iconst 1, 1) := by decide +kernel
theorem dX12_died_48 : decode cX12_died 48 = .ok (.goto 4, 3) := by decide +kernel
theorem dX12_died_51 : decode cX12_died 51 = .ok (.iconst 0, 1) := by decide +kernel
theorem dX12_died_52 : decode cX12_died 52 = .ok (.istore 4, 2) := by decide +kernel
theorem dX12_died_54 : decode cX12_died 54 = .ok (.aload_n 0, 1) := by decide +kernel
theorem dX12_died_55 : decode cX12_died 55 = .ok (.getfield 16, 3) := by decide +kernel
theorem dX12_died_58 : decode cX12_died 58 = .ok (.iload_n 3, 1) := by decide +kernel
theorem dX12_died_59 : decode cX12_died 59 = .ok (.iload 4, 2) := by decide +kernel
theorem dX12_died_61 : decode cX12_died 61 = .ok (.ifCond .eq 7, 3) := by decide +kernel
theorem dX12_died_64 : decode cX12_died 64 = .ok (.iconst (-1), 1) := by decide +kernel
theorem dX12_died_65 : decode cX12_died 65 = .ok (.goto 9, 3) := by decide +kernel
theorem dX12_died_68 : decode cX12_died 68 = .ok (.aload_n 0, 1) := by decide +kernel
theorem dX12_died_69 : decode cX12_died 69 = .ok (.getfield 16, 3) := by decide +kernel
theorem dX12_died_72 : decode cX12_died 72 = .ok (.iload_n 3, 1) := by decide +kernel
theorem dX12_died_73 : decode cX12_died 73 = .ok (.iaload, 1) := by decide +kernel
theorem dX12_died_74 : decode cX12_died 74 = .ok (.iastore, 1) := by decide +kernel
theorem dX12_died_75 : decode cX12_died 75 = .ok (.iinc 2 1, 3) := by decide +kernel
theorem dX12_died_78 : decode cX12_died 78 = .ok (.goto (-76), 3) := by decide +kernel
theorem dX12_died_81 : decode cX12_died 81 = .ok (.aload_n 0, 1) := by decide +kernel
theorem dX12_died_82 : decode cX12_died 82 = .ok (.getfield 19, 3) := by decide +kernel
theorem dX12_died_85 : decode cX12_died 85 = .ok (.iconst 3, 1) := by decide +kernel
theorem dX12_died_86 : decode cX12_died 86 = .ok (.iload_n 1, 1) := by decide +kernel
theorem dX12_died_87 : decode cX12_died 87 = .ok (.imul, 1) := by decide +kernel
theorem dX12_died_88 : decode cX12_died 88 = .ok (.iconst 2, 1) := by decide +kernel
theorem dX12_died_89 : decode cX12_died 89 = .ok (.iadd, 1) := by decide +kernel
theorem dX12_died_90 : decode cX12_died 90 = .ok (.iconst 0, 1) := by decide +kernel
theorem dX12_died_91 : decode cX12_died 91 = .ok (.iastore, 1) := by decide +kernel
theorem dX12_died_92 : decode cX12_died 92 = .ok (.aload_n 0, 1) := by decide +kernel
theorem dX12_died_93 : decode cX12_died 93 = .ok (.iload_n 1, 1) := by decide +kernel
theorem dX12_died_94 : decode cX12_died 94 = .ok (.invokevirtual 164, 3) := by decide +kernel
theorem dX12_died_97 : decode cX12_died 97 = .ok (.istore_n 2, 1) := by decide +kernel
theorem dX12_died_98 : decode cX12_died 98 = .ok (.iconst 0, 1) := by decide +kernel
theorem dX12_died_99 : decode cX12_died 99 = .ok (.istore_n 3, 1) := by decide +kernel
theorem dX12_died_100 : decode cX12_died 100 = .ok (.iconst 0, 1) := by decide +kernel
theorem dX12_died_101 : decode cX12_died 101 = .ok (.istore 4, 2) := by decide +kernel
theorem dX12_died_103 : decode cX12_died 103 = .ok (.iload 4, 2) := by decide +kernel
theorem dX12_died_105 : decode cX12_died 105 = .ok (.iconst 2, 1) := by decide +kernel
theorem dX12_died_106 : decode cX12_died 106 = .ok (.aload_n 0, 1) := by decide +kernel
theorem dX12_died_107 : decode cX12_died 107 = .ok (.getfield 91, 3) := by decide +kernel
theorem dX12_died_110 : decode cX12_died 110 = .ok (.imul, 1) := by decide +kernel
theorem dX12_died_111 : decode cX12_died 111 = .ok (.if_icmp .ge 100, 3) := by decide +kernel
theorem dX12_died_114 : decode cX12_died 114 = .ok (.iload 4, 2) := by decide +kernel
theorem dX12_died_116 : decode cX12_died 116 = .ok (.iconst 2, 1) := by decide +kernel
theorem dX12_died_117 : decode cX12_died 117 = .ok (.idiv, 1) := by decide +kernel
theorem dX12_died_118 : decode cX12_died 118 = .ok (.istore 5, 2) := by decide +kernel
theorem dX12_died_120 : decode cX12_died 120 = .ok (.bipush 7, 2) := by decide +kernel
theorem dX12_died_122 : decode cX12_died 122 = .ok (.iload 5, 2) := by decide +kernel
theorem dX12_died_124 : decode cX12_died 124 = .ok (.imul, 1) := by decide +kernel
theorem dX12_died_125 : decode cX12_died 125 = .ok (.iconst 3, 1) := by decide +kernel
theorem dX12_died_126 : decode cX12_died 126 = .ok (.iadd, 1) := by decide +kernel
theorem dX12_died_127 : decode cX12_died 127 = .ok (.iload 4, 2) := by decide +kernel
theorem dX12_died_129 : decode cX12_died 129 = .ok (.iconst 2, 1) := by decide +kernel
theorem dX12_died_130 : decode cX12_died 130 = .ok (.irem, 1) := by decide +kernel
theorem dX12_died_131 : decode cX12_died 131 = .ok (.iadd, 1) := by decide +kernel
theorem dX12_died_132 : decode cX12_died 132 = .ok (.istore 6, 2) := by decide +kernel
theorem dX12_died_134 : decode cX12_died 134 = .ok (.aload_n 0, 1) := by decide +kernel
theorem dX12_died_135 : decode cX12_died 135 = .ok (.getfield 16, 3) := by decide +kernel
theorem dX12_died_138 : decode cX12_died 138 = .ok (.iload 6, 2) := by decide +kernel
theorem dX12_died_140 : decode cX12_died 140 = .ok (.iaload, 1) := by decide +kernel
theorem dX12_died_141 : decode cX12_died 141 = .ok (.iload_n 1, 1) := by decide +kernel
theorem dX12_died_142 : decode cX12_died 142 = .ok (.if_icmp .ne 63, 3) := by decide +kernel
theorem dX12_died_145 : decode cX12_died 145 = .ok (.aload_n 0, 1) := by decide +kernel
theorem dX12_died_146 : decode cX12_died 146 = .ok (.getfield 16, 3) := by decide +kernel
theorem dX12_died_149 : decode cX12_died 149 = .ok (.iload 6, 2) := by decide +kernel
theorem dX12_died_151 : decode cX12_died 151 = .ok (.iconst (-1), 1) := by decide +kernel
theorem dX12_died_152 : decode cX12_died 152 = .ok (.iastore, 1) := by decide +kernel
theorem dX12_died_153 : decode cX12_died 153 = .ok (.iload_n 2, 1) := by decide +kernel
theorem dX12_died_154 : decode cX12_died 154 = .ok (.iconst (-1), 1) := by decide +kernel
theorem dX12_died_155 : decode cX12_died 155 = .ok (.if_icmp .eq 17, 3) := by decide +kernel
theorem dX12_died_158 : decode cX12_died 158 = .ok (.aload_n 0, 1) := by decide +kernel
theorem dX12_died_159 : decode cX12_died 159 = .ok (.iload_n 2, 1) := by decide +kernel
theorem dX12_died_160 : decode cX12_died 160 = .ok (.iload 5, 2) := by decide +kernel
theorem dX12_died_162 : decode cX12_died 162 = .ok (.invokevirtual 146, 3) := by decide +kernel
theorem dX12_died_165 : decode cX12_died 165 = .ok (.ifCond .ne 7, 3) := by decide +kernel
theorem dX12_died_168 : decode cX12_died 168 = .ok (.iconst 1, 1) := by decide +kernel
theorem dX12_died_169 : decode cX12_died 169 = .ok (.goto 4, 3) := by decide +kernel
theorem dX12_died_172 : decode cX12_died 172 = .ok (.iconst 0, 1) := by decide +kernel
theorem dX12_died_173 : decode cX12_died 173 = .ok (.istore 7, 2) := by decide +kernel
theorem dX12_died_175 : decode cX12_died 175 = .ok (.aload_n 0, 1) := by decide +kernel
theorem dX12_died_176 : decode cX12_died 176 = .ok (.getfield 16, 3) := by decide +kernel
theorem dX12_died_179 : decode cX12_died 179 = .ok (.iload 6, 2) := by decide +kernel
theorem dX12_died_181 : decode cX12_died 181 = .ok (.iload 7, 2) := by decide +kernel
theorem dX12_died_183 : decode cX12_died 183 = .ok (.ifCond .eq 7, 3) := by decide +kernel
theorem dX12_died_186 : decode cX12_died 186 = .ok (.iload_n 2, 1) := by decide +kernel
theorem dX12_died_187 : decode cX12_died 187 = .ok (.goto 4, 3) := by decide +kernel
theorem dX12_died_190 : decode cX12_died 190 = .ok (.iconst (-1), 1) := by decide +kernel
theorem dX12_died_191 : decode cX12_died 191 = .ok (.iastore, 1) := by decide +kernel
theorem dX12_died_192 : decode cX12_died 192 = .ok (.iload_n 3, 1) := by decide +kernel
theorem dX12_died_193 : decode cX12_died 193 = .ok (.iload 7, 2) := by decide +kernel
theorem dX12_died_195 : decode cX12_died 195 = .ok (.ifCond .eq 7, 3) := by decide +kernel
theorem dX12_died_198 : decode cX12_died 198 = .ok (.iconst 1, 1) := by decide +kernel
theorem dX12_died_199 : decode cX12_died 199 = .ok (.goto 4, 3) := by decide +kernel
theorem dX12_died_202 : decode cX12_died 202 = .ok (.iconst 0, 1) := by decide +kernel
theorem dX12_died_203 : decode cX12_died 203 = .ok (.iadd, 1) := by decide +kernel
theorem dX12_died_204 : decode cX12_died 204 = .ok (.istore_n 3, 1) := by decide +kernel
theorem dX12_died_205 : decode cX12_died 205 = .ok (.iinc 4 1, 3) := by decide +kernel
theorem dX12_died_208 : decode cX12_died 208 = .ok (.goto (-105), 3) := by decide +kernel
theorem dX12_died_211 : decode cX12_died 211 = .ok (.iload_n 2, 1) := by decide +kernel
theorem dX12_died_212 : decode cX12_died 212 = .ok (.iconst (-1), 1) := by decide +kernel
theorem dX12_died_213 : decode cX12_died 213 = .ok (.if_icmp .eq 31, 3) := by decide +kernel
theorem dX12_died_216 : decode cX12_died 216 = .ok (.aload_n 0, 1) := by decide +kernel
theorem dX12_died_217 : decode cX12_died 217 = .ok (.getfield 19, 3) := by decide +kernel
theorem dX12_died_220 : decode cX12_died 220 = .ok (.iconst 3, 1) := by decide +kernel
theorem dX12_died_221 : decode cX12_died 221 = .ok (.iload_n 2, 1) := by decide +kernel
theorem dX12_died_222 : decode cX12_died 222 = .ok (.imul, 1) := by decide +kernel
theorem dX12_died_223 : decode cX12_died 223 = .ok (.aload_n 0, 1) := by decide +kernel
theorem dX12_died_224 : decode cX12_died 224 = .ok (.getfield 19, 3) := by decide +kernel
theorem dX12_died_227 : decode cX12_died 227 = .ok (.iconst 3, 1) := by decide +kernel
theorem dX12_died_228 : decode cX12_died 228 = .ok (.iload_n 2, 1) := by decide +kernel
theorem dX12_died_229 : decode cX12_died 229 = .ok (.imul, 1) := by decide +kernel
theorem dX12_died_230 : decode cX12_died 230 = .ok (.iaload, 1) := by decide +kernel
theorem dX12_died_231 : decode cX12_died 231 = .ok (.aload_n 0, 1) := by decide +kernel
theorem dX12_died_232 : decode cX12_died 232 = .ok (.getfield 19, 3) := by decide +kernel
theorem dX12_died_235 : decode cX12_died 235 = .ok (.iconst 3, 1) := by decide +kernel
theorem dX12_died_236 : decode cX12_died 236 = .ok (.iload_n 1, 1) := by decide +kernel
theorem dX12_died_237 : decode cX12_died 237 = .ok (.imul, 1) := by decide +kernel
theorem dX12_died_238 : decode cX12_died 238 = .ok (.iaload, 1) := by decide +kernel
theorem dX12_died_239 : decode cX12_died 239 = .ok (.iadd, 1) := by decide +kernel
theorem dX12_died_240 : decode cX12_died 240 = .ok (.invokestatic 150, 3) := by decide +kernel
theorem dX12_died_243 : decode cX12_died 243 = .ok (.iastore, 1) := by decide +kernel
theorem dX12_died_244 : decode cX12_died 244 = .ok (.aload_n 0, 1) := by decide +kernel
theorem dX12_died_245 : decode cX12_died 245 = .ok (.getfield 19, 3) := by decide +kernel
theorem dX12_died_248 : decode cX12_died 248 = .ok (.iconst 3, 1) := by decide +kernel
theorem dX12_died_249 : decode cX12_died 249 = .ok (.iload_n 1, 1) := by decide +kernel
theorem dX12_died_250 : decode cX12_died 250 = .ok (.imul, 1) := by decide +kernel
theorem dX12_died_251 : decode cX12_died 251 = .ok (.iconst 0, 1) := by decide +kernel
theorem dX12_died_252 : decode cX12_died 252 = .ok (.iastore, 1) := by decide +kernel
theorem dX12_died_253 : decode cX12_died 253 = .ok (.iload_n 3, 1) := by decide +kernel
theorem dX12_died_254 : decode cX12_died 254 = .ok (.ireturn, 1) := by decide +kernel
theorem dX12_death_0 : decode cX12_death 0 = .ok (.iload_n 1, 1) := by decide +kernel
theorem dX12_death_1 : decode cX12_death 1 = .ok (.invokestatic 103, 3) := by decide +kernel
theorem dX12_death_4 : decode cX12_death 4 = .ok (.ifCond .ne 6, 3) := by decide +kernel
theorem dX12_death_7 : decode cX12_death 7 = .ok (.bipush (-101), 2) := by decide +kernel
theorem dX12_death_9 : decode cX12_death 9 = .ok (.ireturn, 1) := by decide +kernel
theorem dX12_death_10 : decode cX12_death 10 = .ok (.aload_n 0, 1) := by decide +kernel
theorem dX12_death_11 : decode cX12_death 11 = .ok (.invokevirtual 139, 3) := by decide +kernel
theorem dX12_death_14 : decode cX12_death 14 = .ok (.ifCond .ne 11, 3) := by decide +kernel
theorem dX12_death_17 : decode cX12_death 17 = .ok (.aload_n 0, 1) := by decide +kernel
theorem dX12_death_18 : decode cX12_death 18 = .ok (.iload_n 1, 1) := by decide +kernel
theorem dX12_death_19 : decode cX12_death 19 = .ok (.invokevirtual 143, 3) := by decide +kernel
theorem dX12_death_22 : decode cX12_death 22 = .ok (.ifCond .ne 8, 3) := by decide +kernel
theorem dX12_death_25 : decode cX12_death 25 = .ok (.bipush (-103), 2) := by decide +kernel
theorem dX12_death_27 : decode cX12_death 27 = .ok (.goto 8, 3) := by decide +kernel
theorem dX12_death_30 : decode cX12_death 30 = .ok (.aload_n 0, 1) := by decide +kernel
theorem dX12_death_31 : decode cX12_death 31 = .ok (.iload_n 1, 1) := by decide +kernel
theorem dX12_death_32 : decode cX12_death 32 = .ok (.invokevirtual 167, 3) := by decide +kernel
theorem dX12_death_35 : decode cX12_death 35 = .ok (.ireturn, 1) := by decide +kernel
theorem dX12_areOn_0 : decode cX12_areOn 0 = .ok (.aload_n 0, 1) := by decide +kernel
theorem dX12_areOn_1 : decode cX12_areOn 1 = .ok (.iload_n 1, 1) := by decide +kernel
theorem dX12_areOn_2 : decode cX12_areOn 2 = .ok (.invokevirtual 113, 3) := by decide +kernel
theorem dX12_areOn_5 : decode cX12_areOn 5 = .ok (.ifCond .ne 47, 3) := by decide +kernel
theorem dX12_areOn_8 : decode cX12_areOn 8 = .ok (.aload_n 0, 1) := by decide +kernel
theorem dX12_areOn_9 : decode cX12_areOn 9 = .ok (.iload_n 1, 1) := by decide +kernel
theorem dX12_areOn_10 : decode cX12_areOn 10 = .ok (.iconst 0, 1) := by decide +kernel
theorem dX12_areOn_11 : decode cX12_areOn 11 = .ok (.invokevirtual 116, 3) := by decide +kernel
theorem dX12_areOn_14 : decode cX12_areOn 14 = .ok (.iload_n 2, 1) := by decide +kernel
theorem dX12_areOn_15 : decode cX12_areOn 15 = .ok (.if_icmp .ne 13, 3) := by decide +kernel
theorem dX12_areOn_18 : decode cX12_areOn 18 = .ok (.aload_n 0, 1) := by decide +kernel
theorem dX12_areOn_19 : decode cX12_areOn 19 = .ok (.iload_n 1, 1) := by decide +kernel
theorem dX12_areOn_20 : decode cX12_areOn 20 = .ok (.iconst 1, 1) := by decide +kernel
theorem dX12_areOn_21 : decode cX12_areOn 21 = .ok (.invokevirtual 116, 3) := by decide +kernel
theorem dX12_areOn_24 : decode cX12_areOn 24 = .ok (.iload_n 3, 1) := by decide +kernel
theorem dX12_areOn_25 : decode cX12_areOn 25 = .ok (.if_icmp .eq 23, 3) := by decide +kernel
theorem dX12_areOn_28 : decode cX12_areOn 28 = .ok (.aload_n 0, 1) := by decide +kernel
theorem dX12_areOn_29 : decode cX12_areOn 29 = .ok (.iload_n 1, 1) := by decide +kernel
theorem dX12_areOn_30 : decode cX12_areOn 30 = .ok (.iconst 0, 1) := by decide +kernel
theorem dX12_areOn_31 : decode cX12_areOn 31 = .ok (.invokevirtual 116, 3) := by decide +kernel
theorem dX12_areOn_34 : decode cX12_areOn 34 = .ok (.iload_n 3, 1) := by decide +kernel
theorem dX12_areOn_35 : decode cX12_areOn 35 = .ok (.if_icmp .ne 17, 3) := by decide +kernel
theorem dX12_areOn_38 : decode cX12_areOn 38 = .ok (.aload_n 0, 1) := by decide +kernel
theorem dX12_areOn_39 : decode cX12_areOn 39 = .ok (.iload_n 1, 1) := by decide +kernel
theorem dX12_areOn_40 : decode cX12_areOn 40 = .ok (.iconst 1, 1) := by decide +kernel
theorem dX12_areOn_41 : decode cX12_areOn 41 = .ok (.invokevirtual 116, 3) := by decide +kernel
theorem dX12_areOn_44 : decode cX12_areOn 44 = .ok (.iload_n 2, 1) := by decide +kernel
theorem dX12_areOn_45 : decode cX12_areOn 45 = .ok (.if_icmp .ne 7, 3) := by decide +kernel
theorem dX12_areOn_48 : decode cX12_areOn 48 = .ok (.iconst 1, 1) := by decide +kernel
theorem dX12_areOn_49 : decode cX12_areOn 49 = .ok (.goto 4, 3) := by decide +kernel
theorem dX12_areOn_52 : decode cX12_areOn 52 = .ok (.iconst 0, 1) := by decide +kernel
theorem dX12_areOn_53 : decode cX12_areOn 53 = .ok (.ireturn, 1) := by decide +kernel
theorem dX12_harmOf_0 : decode cX12_harmOf 0 = .ok (.iconst (-1), 1) := by decide +kernel
theorem dX12_harmOf_1 : decode cX12_harmOf 1 = .ok (.istore_n 3, 1) := by decide +kernel
theorem dX12_harmOf_2 : decode cX12_harmOf 2 = .ok (.iconst 0, 1) := by decide +kernel
theorem dX12_harmOf_3 : decode cX12_harmOf 3 = .ok (.istore 4, 2) := by decide +kernel
theorem dX12_harmOf_5 : decode cX12_harmOf 5 = .ok (.iload 4, 2) := by decide +kernel
theorem dX12_harmOf_7 : decode cX12_harmOf 7 = .ok (.aload_n 0, 1) := by decide +kernel
theorem dX12_harmOf_8 : decode cX12_harmOf 8 = .ok (.getfield 91, 3) := by decide +kernel
theorem dX12_harmOf_11 : decode cX12_harmOf 11 = .ok (.if_icmp .ge 86, 3) := by decide +kernel
theorem dX12_harmOf_14 : decode cX12_harmOf 14 = .ok (.aload_n 0, 1) := by decide +kernel
theorem dX12_harmOf_15 : decode cX12_harmOf 15 = .ok (.iload_n 1, 1) := by decide +kernel
theorem dX12_harmOf_16 : decode cX12_harmOf 16 = .ok (.invokevirtual 143, 3) := by decide +kernel
theorem dX12_harmOf_19 : decode cX12_harmOf 19 = .ok (.ifCond .eq 78, 3) := by decide +kernel
theorem dX12_harmOf_22 : decode cX12_harmOf 22 = .ok (.aload_n 0, 1) := by decide +kernel
theorem dX12_harmOf_23 : decode cX12_harmOf 23 = .ok (.iload_n 2, 1) := by decide +kernel
theorem dX12_harmOf_24 : decode cX12_harmOf 24 = .ok (.invokevirtual 143, 3) := by decide +kernel
theorem dX12_harmOf_27 : decode cX12_harmOf 27 = .ok (.ifCond .eq 70, 3) := by decide +kernel
theorem dX12_harmOf_30 : decode cX12_harmOf 30 = .ok (.aload_n 0, 1) := by decide +kernel
theorem dX12_harmOf_31 : decode cX12_harmOf 31 = .ok (.iload 4, 2) := by decide +kernel
theorem dX12_harmOf_33 : decode cX12_harmOf 33 = .ok (.iload_n 1, 1) := by decide +kernel
theorem dX12_harmOf_34 : decode cX12_harmOf 34 = .ok (.iload_n 2, 1) := by decide +kernel
theorem dX12_harmOf_35 : decode cX12_harmOf 35 = .ok (.invokevirtual 170, 3) := by decide +kernel
theorem dX12_harmOf_38 : decode cX12_harmOf 38 = .ok (.ifCond .eq 38, 3) := by decide +kernel
theorem dX12_harmOf_41 : decode cX12_harmOf 41 = .ok (.iload_n 3, 1) := by decide +kernel
theorem dX12_harmOf_42 : decode cX12_harmOf 42 = .ok (.iconst (-1), 1) := by decide +kernel
theorem dX12_harmOf_43 : decode cX12_harmOf 43 = .ok (.if_icmp .eq 29, 3) := by decide +kernel
theorem dX12_harmOf_46 : decode cX12_harmOf 46 = .ok (.aload_n 0, 1) := by decide +kernel
theorem dX12_harmOf_47 : decode cX12_harmOf 47 = .ok (.getfield 16, 3) := by decide +kernel
theorem dX12_harmOf_50 : decode cX12_harmOf 50 = .ok (.bipush 7, 2) := by decide +kernel
theorem dX12_harmOf_52 : decode cX12_harmOf 52 = .ok (.iload 4, 2) := by decide +kernel
theorem dX12_harmOf_54 : decode cX12_harmOf 54 = .ok (.imul, 1) := by decide +kernel
theorem dX12_harmOf_55 : decode cX12_harmOf 55 = .ok (.iconst 1, 1) := by decide +kernel
theorem dX12_harmOf_56 : decode cX12_harmOf 56 = .ok (.iadd, 1) := by decide +kernel
theorem dX12_harmOf_57 : decode cX12_harmOf 57 = .ok (.iaload, 1) := by decide +kernel
theorem dX12_harmOf_58 : decode cX12_harmOf 58 = .ok (.aload_n 0, 1) := by decide +kernel
theorem dX12_harmOf_59 : decode cX12_harmOf 59 = .ok (.getfield 16, 3) := by decide +kernel
theorem dX12_harmOf_62 : decode cX12_harmOf 62 = .ok (.bipush 7, 2) := by decide +kernel
theorem dX12_harmOf_64 : decode cX12_harmOf 64 = .ok (.iload_n 3, 1) := by decide +kernel
theorem dX12_harmOf_65 : decode cX12_harmOf 65 = .ok (.imul, 1) := by decide +kernel
theorem dX12_harmOf_66 : decode cX12_harmOf 66 = .ok (.iconst 1, 1) := by decide +kernel
theorem dX12_harmOf_67 : decode cX12_harmOf 67 = .ok (.iadd, 1) := by decide +kernel
theorem dX12_harmOf_68 : decode cX12_harmOf 68 = .ok (.iaload, 1) := by decide +kernel
theorem dX12_harmOf_69 : decode cX12_harmOf 69 = .ok (.if_icmp .le 7, 3) := by decide +kernel
theorem dX12_harmOf_72 : decode cX12_harmOf 72 = .ok (.iconst 1, 1) := by decide +kernel
theorem dX12_harmOf_73 : decode cX12_harmOf 73 = .ok (.goto 4, 3) := by decide +kernel
theorem dX12_harmOf_76 : decode cX12_harmOf 76 = .ok (.iconst 0, 1) := by decide +kernel
theorem dX12_harmOf_77 : decode cX12_harmOf 77 = .ok (.istore 5, 2) := by decide +kernel
theorem dX12_harmOf_79 : decode cX12_harmOf 79 = .ok (.iload 5, 2) := by decide +kernel
theorem dX12_harmOf_81 : decode cX12_harmOf 81 = .ok (.ifCond .eq 8, 3) := by decide +kernel
theorem dX12_harmOf_84 : decode cX12_harmOf 84 = .ok (.iload 4, 2) := by decide +kernel
theorem dX12_harmOf_86 : decode cX12_harmOf 86 = .ok (.goto 4, 3) := by decide +kernel
theorem dX12_harmOf_89 : decode cX12_harmOf 89 = .ok (.iload_n 3, 1) := by decide +kernel
theorem dX12_harmOf_90 : decode cX12_harmOf 90 = .ok (.istore_n 3, 1) := by decide +kernel
theorem dX12_harmOf_91 : decode cX12_harmOf 91 = .ok (.iinc 4 1, 3) := by decide +kernel
theorem dX12_harmOf_94 : decode cX12_harmOf 94 = .ok (.goto (-89), 3) := by decide +kernel
theorem dX12_harmOf_97 : decode cX12_harmOf 97 = .ok (.iload_n 3, 1) := by decide +kernel
theorem dX12_harmOf_98 : decode cX12_harmOf 98 = .ok (.ireturn, 1) := by decide +kernel
theorem dX12_mayHarm_0 : decode cX12_mayHarm 0 = .ok (.iload_n 1, 1) := by decide +kernel
theorem dX12_mayHarm_1 : decode cX12_mayHarm 1 = .ok (.iload_n 2, 1) := by decide +kernel
theorem dX12_mayHarm_2 : decode cX12_mayHarm 2 = .ok (.invokestatic 173, 3) := by decide +kernel
theorem dX12_mayHarm_5 : decode cX12_mayHarm 5 = .ok (.ifCond .eq 12, 3) := by decide +kernel
theorem dX12_mayHarm_8 : decode cX12_mayHarm 8 = .ok (.aload_n 0, 1) := by decide +kernel
theorem dX12_mayHarm_9 : decode cX12_mayHarm 9 = .ok (.iload_n 1, 1) := by decide +kernel
theorem dX12_mayHarm_10 : decode cX12_mayHarm 10 = .ok (.iload_n 2, 1) := by decide +kernel
theorem dX12_mayHarm_11 : decode cX12_mayHarm 11 = .ok (.invokevirtual 176, 3) := by decide +kernel
theorem dX12_mayHarm_14 : decode cX12_mayHarm 14 = .ok (.goto 5, 3) := by decide +kernel
theorem dX12_mayHarm_17 : decode cX12_mayHarm 17 = .ok (.bipush (-101), 2) := by decide +kernel
theorem dX12_mayHarm_19 : decode cX12_mayHarm 19 = .ok (.ireturn, 1) := by decide +kernel
theorem dX12_harm_0 : decode cX12_harm 0 = .ok (.iload_n 1, 1) := by decide +kernel
theorem dX12_harm_1 : decode cX12_harm 1 = .ok (.iload_n 2, 1) := by decide +kernel
theorem dX12_harm_2 : decode cX12_harm 2 = .ok (.invokestatic 173, 3) := by decide +kernel
theorem dX12_harm_5 : decode cX12_harm 5 = .ok (.ifCond .ne 6, 3) := by decide +kernel
theorem dX12_harm_8 : decode cX12_harm 8 = .ok (.bipush (-101), 2) := by decide +kernel
theorem dX12_harm_10 : decode cX12_harm 10 = .ok (.ireturn, 1) := by decide +kernel
theorem dX12_harm_11 : decode cX12_harm 11 = .ok (.aload_n 0, 1) := by decide +kernel
theorem dX12_harm_12 : decode cX12_harm 12 = .ok (.iload_n 1, 1) := by decide +kernel
theorem dX12_harm_13 : decode cX12_harm 13 = .ok (.iload_n 2, 1) := by decide +kernel
theorem dX12_harm_14 : decode cX12_harm 14 = .ok (.invokevirtual 176, 3) := by decide +kernel
theorem dX12_harm_17 : decode cX12_harm 17 = .ok (.istore_n 3, 1) := by decide +kernel
theorem dX12_harm_18 : decode cX12_harm 18 = .ok (.iload_n 3, 1) := by decide +kernel
theorem dX12_harm_19 : decode cX12_harm 19 = .ok (.iconst (-1), 1) := by decide +kernel
theorem dX12_harm_20 : decode cX12_harm 20 = .ok (.if_icmp .ne 6, 3) := by decide +kernel
theorem dX12_harm_23 : decode cX12_harm 23 = .ok (.bipush (-103), 2) := by decide +kernel
theorem dX12_harm_25 : decode cX12_harm 25 = .ok (.ireturn, 1) := by decide +kernel
theorem dX12_harm_26 : decode cX12_harm 26 = .ok (.aload_n 0, 1) := by decide +kernel
theorem dX12_harm_27 : decode cX12_harm 27 = .ok (.getfield 94, 3) := by decide +kernel
theorem dX12_harm_30 : decode cX12_harm 30 = .ok (.bipush 12, 2) := by decide +kernel
theorem dX12_harm_32 : decode cX12_harm 32 = .ok (.if_icmp .ne 6, 3) := by decide +kernel
theorem dX12_harm_35 : decode cX12_harm 35 = .ok (.bipush (-104), 2) := by decide +kernel
theorem dX12_harm_37 : decode cX12_harm 37 = .ok (.ireturn, 1) := by decide +kernel
theorem dX12_harm_38 : decode cX12_harm 38 = .ok (.aload_n 0, 1) := by decide +kernel
theorem dX12_harm_39 : decode cX12_harm 39 = .ok (.getfield 22, 3) := by decide +kernel
theorem dX12_harm_42 : decode cX12_harm 42 = .ok (.iconst 2, 1) := by decide +kernel
theorem dX12_harm_43 : decode cX12_harm 43 = .ok (.aload_n 0, 1) := by decide +kernel
theorem dX12_harm_44 : decode cX12_harm 44 = .ok (.getfield 94, 3) := by decide +kernel
theorem dX12_harm_47 : decode cX12_harm 47 = .ok (.imul, 1) := by decide +kernel
theorem dX12_harm_48 : decode cX12_harm 48 = .ok (.iload_n 1, 1) := by decide +kernel
theorem dX12_harm_49 : decode cX12_harm 49 = .ok (.iastore, 1) := by decide +kernel
theorem dX12_harm_50 : decode cX12_harm 50 = .ok (.aload_n 0, 1) := by decide +kernel
theorem dX12_harm_51 : decode cX12_harm 51 = .ok (.getfield 22, 3) := by decide +kernel
theorem dX12_harm_54 : decode cX12_harm 54 = .ok (.iconst 2, 1) := by decide +kernel
theorem dX12_harm_55 : decode cX12_harm 55 = .ok (.aload_n 0, 1) := by decide +kernel
theorem dX12_harm_56 : decode cX12_harm 56 = .ok (.getfield 94, 3) := by decide +kernel
theorem dX12_harm_59 : decode cX12_harm 59 = .ok (.imul, 1) := by decide +kernel
theorem dX12_harm_60 : decode cX12_harm 60 = .ok (.iconst 1, 1) := by decide +kernel
theorem dX12_harm_61 : decode cX12_harm 61 = .ok (.iadd, 1) := by decide +kernel
theorem dX12_harm_62 : decode cX12_harm 62 = .ok (.iload_n 2, 1) := by decide +kernel
theorem dX12_harm_63 : decode cX12_harm 63 = .ok (.iastore, 1) := by decide +kernel
theorem dX12_harm_64 : decode cX12_harm 64 = .ok (.aload_n 0, 1) := by decide +kernel
theorem dX12_harm_65 : decode cX12_harm 65 = .ok (.dup, 1) := by decide +kernel
theorem dX12_harm_66 : decode cX12_harm 66 = .ok (.getfield 94, 3) := by decide +kernel
theorem dX12_harm_69 : decode cX12_harm 69 = .ok (.iconst 1, 1) := by decide +kernel
theorem dX12_harm_70 : decode cX12_harm 70 = .ok (.iadd, 1) := by decide +kernel
theorem dX12_harm_71 : decode cX12_harm 71 = .ok (.putfield 94, 3) := by decide +kernel
theorem dX12_harm_74 : decode cX12_harm 74 = .ok (.iload_n 3, 1) := by decide +kernel
theorem dX12_harm_75 : decode cX12_harm 75 = .ok (.ireturn, 1) := by decide +kernel
theorem dX12_ended_0 : decode cX12_ended 0 = .ok (.iconst 0, 1) := by decide +kernel
theorem dX12_ended_1 : decode cX12_ended 1 = .ok (.istore_n 1, 1) := by decide +kernel
theorem dX12_ended_2 : decode cX12_ended 2 = .ok (.iconst 0, 1) := by decide +kernel
theorem dX12_ended_3 : decode cX12_ended 3 = .ok (.istore_n 2, 1) := by decide +kernel
theorem dX12_ended_4 : decode cX12_ended 4 = .ok (.iload_n 2, 1) := by decide +kernel
theorem dX12_ended_5 : decode cX12_ended 5 = .ok (.iconst 2, 1) := by decide +kernel
theorem dX12_ended_6 : decode cX12_ended 6 = .ok (.aload_n 0, 1) := by decide +kernel
theorem dX12_ended_7 : decode cX12_ended 7 = .ok (.getfield 91, 3) := by decide +kernel
theorem dX12_ended_10 : decode cX12_ended 10 = .ok (.imul, 1) := by decide +kernel
theorem dX12_ended_11 : decode cX12_ended 11 = .ok (.if_icmp .ge 47, 3) := by decide +kernel
theorem dX12_ended_14 : decode cX12_ended 14 = .ok (.bipush 7, 2) := by decide +kernel
theorem dX12_ended_16 : decode cX12_ended 16 = .ok (.iload_n 2, 1) := by decide +kernel
theorem dX12_ended_17 : decode cX12_ended 17 = .ok (.iconst 2, 1) := by decide +kernel
theorem dX12_ended_18 : decode cX12_ended 18 = .ok (.idiv, 1) := by decide +kernel
theorem dX12_ended_19 : decode cX12_ended 19 = .ok (.imul, 1) := by decide +kernel
theorem dX12_ended_20 : decode cX12_ended 20 = .ok (.iconst 5, 1) := by decide +kernel
theorem dX12_ended_21 : decode cX12_ended 21 = .ok (.iadd, 1) := by decide +kernel
theorem dX12_ended_22 : decode cX12_ended 22 = .ok (.iload_n 2, 1) := by decide +kernel
theorem dX12_ended_23 : decode cX12_ended 23 = .ok (.iconst 2, 1) := by decide +kernel
theorem dX12_ended_24 : decode cX12_ended 24 = .ok (.irem, 1) := by decide +kernel
theorem dX12_ended_25 : decode cX12_ended 25 = .ok (.iadd, 1) := by decide +kernel
theorem dX12_ended_26 : decode cX12_ended 26 = .ok (.istore_n 3, 1) := by decide +kernel
theorem dX12_ended_27 : decode cX12_ended 27 = .ok (.iload_n 1, 1) := by decide +kernel
theorem dX12_ended_28 : decode cX12_ended 28 = .ok (.aload_n 0, 1) := by decide +kernel
theorem dX12_ended_29 : decode cX12_ended 29 = .ok (.getfield 16, 3) := by decide +kernel
theorem dX12_ended_32 : decode cX12_ended 32 = .ok (.iload_n 3, 1) := by decide +kernel
theorem dX12_ended_33 : decode cX12_ended 33 = .ok (.iaload, 1) := by decide +kernel
theorem dX12_ended_34 : decode cX12_ended 34 = .ok (.iconst (-1), 1) := by decide +kernel
theorem dX12_ended_35 : decode cX12_ended 35 = .ok (.if_icmp .ne 7, 3) := by decide +kernel
theorem dX12_ended_38 : decode cX12_ended 38 = .ok (.iconst 0, 1) := by decide +kernel
theorem dX12_ended_39 : decode cX12_ended 39 = .ok (.goto 4, 3) := by decide +kernel
theorem dX12_ended_42 : decode cX12_ended 42 = .ok (.iconst 1, 1) := by decide +kernel
theorem dX12_ended_43 : decode cX12_ended 43 = .ok (.iadd, 1) := by decide +kernel
theorem dX12_ended_44 : decode cX12_ended 44 = .ok (.istore_n 1, 1) := by decide +kernel
theorem dX12_ended_45 : decode cX12_ended 45 = .ok (.aload_n 0, 1) := by decide +kernel
theorem dX12_ended_46 : decode cX12_ended 46 = .ok (.getfield 16, 3) := by decide +kernel
theorem dX12_ended_49 : decode cX12_ended 49 = .ok (.iload_n 3, 1) := by decide +kernel
theorem dX12_ended_50 : decode cX12_ended 50 = .ok (.iconst (-1), 1) := by decide +kernel
theorem dX12_ended_51 : decode cX12_ended 51 = .ok (.iastore, 1) := by decide +kernel
theorem dX12_ended_52 : decode cX12_ended 52 = .ok (.iinc 2 1, 3) := by decide +kernel
theorem dX12_ended_55 : decode cX12_ended 55 = .ok (.goto (-51), 3) := by decide +kernel
theorem dX12_ended_58 : decode cX12_ended 58 = .ok (.iconst 0, 1) := by decide +kernel
theorem dX12_ended_59 : decode cX12_ended 59 = .ok (.istore_n 2, 1) := by decide +kernel
theorem dX12_ended_60 : decode cX12_ended 60 = .ok (.iload_n 2, 1) := by decide +kernel
theorem dX12_ended_61 : decode cX12_ended 61 = .ok (.bipush 6, 2) := by decide +kernel
theorem dX12_ended_63 : decode cX12_ended 63 = .ok (.if_icmp .ge 49, 3) := by decide +kernel
theorem dX12_ended_66 : decode cX12_ended 66 = .ok (.aload_n 0, 1) := by decide +kernel
theorem dX12_ended_67 : decode cX12_ended 67 = .ok (.getfield 19, 3) := by decide +kernel
theorem dX12_ended_70 : decode cX12_ended 70 = .ok (.iconst 3, 1) := by decide +kernel
theorem dX12_ended_71 : decode cX12_ended 71 = .ok (.iload_n 2, 1) := by decide +kernel
theorem dX12_ended_72 : decode cX12_ended 72 = .ok (.imul, 1) := by decide +kernel
theorem dX12_ended_73 : decode cX12_ended 73 = .ok (.aload_n 0, 1) := by decide +kernel
theorem dX12_ended_74 : decode cX12_ended 74 = .ok (.iload_n 2, 1) := by decide +kernel
theorem dX12_ended_75 : decode cX12_ended 75 = .ok (.invokevirtual 143, 3) := by decide +kernel
theorem dX12_ended_78 : decode cX12_ended 78 = .ok (.ifCond .eq 19, 3) := by decide +kernel
theorem dX12_ended_81 : decode cX12_ended 81 = .ok (.aload_n 0, 1) := by decide +kernel
theorem dX12_ended_82 : decode cX12_ended 82 = .ok (.getfield 19, 3) := by decide +kernel
theorem dX12_ended_85 : decode cX12_ended 85 = .ok (.iconst 3, 1) := by decide +kernel
theorem dX12_ended_86 : decode cX12_ended 86 = .ok (.iload_n 2, 1) := by decide +kernel
theorem dX12_ended_87 : decode cX12_ended 87 = .ok (.imul, 1) := by decide +kernel
theorem dX12_ended_88 : decode cX12_ended 88 = .ok (.iaload, 1) := by decide +kernel
theorem dX12_ended_89 : decode cX12_ended 89 = .ok (.iconst 2, 1) := by decide +kernel
theorem dX12_ended_90 : decode cX12_ended 90 = .ok (.iadd, 1) := by decide +kernel
theorem dX12_ended_91 : decode cX12_ended 91 = .ok (.invokestatic 150, 3) := by decide +kernel
theorem dX12_ended_94 : decode cX12_ended 94 = .ok (.goto 11, 3) := by decide +kernel
theorem dX12_ended_97 : decode cX12_ended 97 = .ok (.aload_n 0, 1) := by decide +kernel
theorem dX12_ended_98 : decode cX12_ended 98 = .ok (.getfield 19, 3) := by decide +kernel
theorem dX12_ended_101 : decode cX12_ended 101 = .ok (.iconst 3, 1) := by decide +kernel
theorem dX12_ended_102 : decode cX12_ended 102 = .ok (.iload_n 2, 1) := by decide +kernel
theorem dX12_ended_103 : decode cX12_ended 103 = .ok (.imul, 1) := by decide +kernel
theorem dX12_ended_104 : decode cX12_ended 104 = .ok (.iaload, 1) := by decide +kernel
theorem dX12_ended_105 : decode cX12_ended 105 = .ok (.iastore, 1) := by decide +kernel
theorem dX12_ended_106 : decode cX12_ended 106 = .ok (.iinc 2 1, 3) := by decide +kernel
theorem dX12_ended_109 : decode cX12_ended 109 = .ok (.goto (-49), 3) := by decide +kernel
theorem dX12_ended_112 : decode cX12_ended 112 = .ok (.iload_n 1, 1) := by decide +kernel
theorem dX12_ended_113 : decode cX12_ended 113 = .ok (.ireturn, 1) := by decide +kernel
theorem dX12_season_0 : decode cX12_season 0 = .ok (.aload_n 0, 1) := by decide +kernel
theorem dX12_season_1 : decode cX12_season 1 = .ok (.invokevirtual 139, 3) := by decide +kernel
theorem dX12_season_4 : decode cX12_season 4 = .ok (.ifCond .eq 8, 3) := by decide +kernel
theorem dX12_season_7 : decode cX12_season 7 = .ok (.bipush (-103), 2) := by decide +kernel
theorem dX12_season_9 : decode cX12_season 9 = .ok (.goto 7, 3) := by decide +kernel
theorem dX12_season_12 : decode cX12_season 12 = .ok (.aload_n 0, 1) := by decide +kernel
theorem dX12_season_13 : decode cX12_season 13 = .ok (.invokevirtual 179, 3) := by decide +kernel
theorem dX12_season_16 : decode cX12_season 16 = .ok (.ireturn, 1) := by decide +kernel
theorem dX12_copy_0 : decode cX12_copy 0 = .ok (.iconst 0, 1) := by decide +kernel
theorem dX12_copy_1 : decode cX12_copy 1 = .ok (.istore_n 2, 1) := by decide +kernel
theorem dX12_copy_2 : decode cX12_copy 2 = .ok (.iload_n 2, 1) := by decide +kernel
theorem dX12_copy_3 : decode cX12_copy 3 = .ok (.aload_n 0, 1) := by decide +kernel
theorem dX12_copy_4 : decode cX12_copy 4 = .ok (.arraylength, 1) := by decide +kernel
theorem dX12_copy_5 : decode cX12_copy 5 = .ok (.if_icmp .ge 15, 3) := by decide +kernel
theorem dX12_copy_8 : decode cX12_copy 8 = .ok (.aload_n 1, 1) := by decide +kernel
theorem dX12_copy_9 : decode cX12_copy 9 = .ok (.iload_n 2, 1) := by decide +kernel
theorem dX12_copy_10 : decode cX12_copy 10 = .ok (.aload_n 0, 1) := by decide +kernel
theorem dX12_copy_11 : decode cX12_copy 11 = .ok (.iload_n 2, 1) := by decide +kernel
theorem dX12_copy_12 : decode cX12_copy 12 = .ok (.iaload, 1) := by decide +kernel
theorem dX12_copy_13 : decode cX12_copy 13 = .ok (.iastore, 1) := by decide +kernel
theorem dX12_copy_14 : decode cX12_copy 14 = .ok (.iinc 2 1, 3) := by decide +kernel
theorem dX12_copy_17 : decode cX12_copy 17 = .ok (.goto (-15), 3) := by decide +kernel
theorem dX12_copy_20 : decode cX12_copy 20 = .ok (.return_, 1) := by decide +kernel
theorem dX12_save_0 : decode cX12_save 0 = .ok (.aload_n 0, 1) := by decide +kernel
theorem dX12_save_1 : decode cX12_save 1 = .ok (.getfield 16, 3) := by decide +kernel
theorem dX12_save_4 : decode cX12_save 4 = .ok (.aload_n 0, 1) := by decide +kernel
theorem dX12_save_5 : decode cX12_save 5 = .ok (.getfield 25, 3) := by decide +kernel
theorem dX12_save_8 : decode cX12_save 8 = .ok (.invokestatic 182, 3) := by decide +kernel
theorem dX12_save_11 : decode cX12_save 11 = .ok (.aload_n 0, 1) := by decide +kernel
theorem dX12_save_12 : decode cX12_save 12 = .ok (.getfield 19, 3) := by decide +kernel
theorem dX12_save_15 : decode cX12_save 15 = .ok (.aload_n 0, 1) := by decide +kernel
theorem dX12_save_16 : decode cX12_save 16 = .ok (.getfield 28, 3) := by decide +kernel
theorem dX12_save_19 : decode cX12_save 19 = .ok (.invokestatic 182, 3) := by decide +kernel
theorem dX12_save_22 : decode cX12_save 22 = .ok (.return_, 1) := by decide +kernel
theorem dX12_layBack_0 : decode cX12_layBack 0 = .ok (.aload_n 0, 1) := by decide +kernel
theorem dX12_layBack_1 : decode cX12_layBack 1 = .ok (.getfield 25, 3) := by decide +kernel
theorem dX12_layBack_4 : decode cX12_layBack 4 = .ok (.aload_n 0, 1) := by decide +kernel
theorem dX12_layBack_5 : decode cX12_layBack 5 = .ok (.getfield 16, 3) := by decide +kernel
theorem dX12_layBack_8 : decode cX12_layBack 8 = .ok (.invokestatic 182, 3) := by decide +kernel
theorem dX12_layBack_11 : decode cX12_layBack 11 = .ok (.aload_n 0, 1) := by decide +kernel
theorem dX12_layBack_12 : decode cX12_layBack 12 = .ok (.getfield 28, 3) := by decide +kernel
theorem dX12_layBack_15 : decode cX12_layBack 15 = .ok (.aload_n 0, 1) := by decide +kernel
theorem dX12_layBack_16 : decode cX12_layBack 16 = .ok (.getfield 19, 3) := by decide +kernel
theorem dX12_layBack_19 : decode cX12_layBack 19 = .ok (.invokestatic 182, 3) := by decide +kernel
theorem dX12_layBack_22 : decode cX12_layBack 22 = .ok (.return_, 1) := by decide +kernel
theorem dX12_getsOn_0 : decode cX12_getsOn 0 = .ok (.aload_n 0, 1) := by decide +kernel
theorem dX12_getsOn_1 : decode cX12_getsOn 1 = .ok (.iload_n 2, 1) := by decide +kernel
theorem dX12_getsOn_2 : decode cX12_getsOn 2 = .ok (.iload_n 3, 1) := by decide +kernel
theorem dX12_getsOn_3 : decode cX12_getsOn 3 = .ok (.invokevirtual 116, 3) := by decide +kernel
theorem dX12_getsOn_6 : decode cX12_getsOn 6 = .ok (.iload_n 1, 1) := by decide +kernel
theorem dX12_getsOn_7 : decode cX12_getsOn 7 = .ok (.if_icmp .ne 5, 3) := by decide +kernel
theorem dX12_getsOn_10 : decode cX12_getsOn 10 = .ok (.iconst 0, 1) := by decide +kernel
theorem dX12_getsOn_11 : decode cX12_getsOn 11 = .ok (.ireturn, 1) := by decide +kernel
theorem dX12_getsOn_12 : decode cX12_getsOn 12 = .ok (.aload_n 0, 1) := by decide +kernel
theorem dX12_getsOn_13 : decode cX12_getsOn 13 = .ok (.iload_n 1, 1) := by decide +kernel
theorem dX12_getsOn_14 : decode cX12_getsOn 14 = .ok (.iload_n 2, 1) := by decide +kernel
theorem dX12_getsOn_15 : decode cX12_getsOn 15 = .ok (.iload_n 3, 1) := by decide +kernel
theorem dX12_getsOn_16 : decode cX12_getsOn 16 = .ok (.invokevirtual 153, 3) := by decide +kernel
theorem dX12_getsOn_19 : decode cX12_getsOn 19 = .ok (.ifCond .eq 13, 3) := by decide +kernel
theorem dX12_getsOn_22 : decode cX12_getsOn 22 = .ok (.aload_n 0, 1) := by decide +kernel
theorem dX12_getsOn_23 : decode cX12_getsOn 23 = .ok (.iload_n 1, 1) := by decide +kernel
theorem dX12_getsOn_24 : decode cX12_getsOn 24 = .ok (.iload_n 2, 1) := by decide +kernel
theorem dX12_getsOn_25 : decode cX12_getsOn 25 = .ok (.iload_n 3, 1) := by decide +kernel
theorem dX12_getsOn_26 : decode cX12_getsOn 26 = .ok (.invokevirtual 157, 3) := by decide +kernel
theorem dX12_getsOn_29 : decode cX12_getsOn 29 = .ok (.goto 4, 3) := by decide +kernel
theorem dX12_getsOn_32 : decode cX12_getsOn 32 = .ok (.iconst (-1), 1) := by decide +kernel
theorem dX12_getsOn_33 : decode cX12_getsOn 33 = .ok (.ireturn, 1) := by decide +kernel
theorem dX12_bothOn_0 : decode cX12_bothOn 0 = .ok (.aload_n 0, 1) := by decide +kernel
theorem dX12_bothOn_1 : decode cX12_bothOn 1 = .ok (.iload_n 2, 1) := by decide +kernel
theorem dX12_bothOn_2 : decode cX12_bothOn 2 = .ok (.iload_n 1, 1) := by decide +kernel
theorem dX12_bothOn_3 : decode cX12_bothOn 3 = .ok (.iconst 0, 1) := by decide +kernel
theorem dX12_bothOn_4 : decode cX12_bothOn 4 = .ok (.invokevirtual 186, 3) := by decide +kernel
theorem dX12_bothOn_7 : decode cX12_bothOn 7 = .ok (.istore 4, 2) := by decide +kernel
theorem dX12_bothOn_9 : decode cX12_bothOn 9 = .ok (.iload 4, 2) := by decide +kernel
theorem dX12_bothOn_11 : decode cX12_bothOn 11 = .ok (.iconst (-1), 1) := by decide +kernel
theorem dX12_bothOn_12 : decode cX12_bothOn 12 = .ok (.if_icmp .ne 7, 3) := by decide +kernel
theorem dX12_bothOn_15 : decode cX12_bothOn 15 = .ok (.iconst (-1), 1) := by decide +kernel
theorem dX12_bothOn_16 : decode cX12_bothOn 16 = .ok (.goto 10, 3) := by decide +kernel
theorem dX12_bothOn_19 : decode cX12_bothOn 19 = .ok (.aload_n 0, 1) := by decide +kernel
theorem dX12_bothOn_20 : decode cX12_bothOn 20 = .ok (.iload_n 3, 1) := by decide +kernel
theorem dX12_bothOn_21 : decode cX12_bothOn 21 = .ok (.iload_n 1, 1) := by decide +kernel
theorem dX12_bothOn_22 : decode cX12_bothOn 22 = .ok (.iconst 1, 1) := by decide +kernel
theorem dX12_bothOn_23 : decode cX12_bothOn 23 = .ok (.invokevirtual 186, 3) := by decide +kernel
theorem dX12_bothOn_26 : decode cX12_bothOn 26 = .ok (.istore 5, 2) := by decide +kernel
theorem dX12_bothOn_28 : decode cX12_bothOn 28 = .ok (.iload 5, 2) := by decide +kernel
theorem dX12_bothOn_30 : decode cX12_bothOn 30 = .ok (.iconst (-1), 1) := by decide +kernel
theorem dX12_bothOn_31 : decode cX12_bothOn 31 = .ok (.if_icmp .eq 27, 3) := by decide +kernel
theorem dX12_bothOn_34 : decode cX12_bothOn 34 = .ok (.aload_n 0, 1) := by decide +kernel
theorem dX12_bothOn_35 : decode cX12_bothOn 35 = .ok (.iload_n 1, 1) := by decide +kernel
theorem dX12_bothOn_36 : decode cX12_bothOn 36 = .ok (.iconst 0, 1) := by decide +kernel
theorem dX12_bothOn_37 : decode cX12_bothOn 37 = .ok (.invokevirtual 116, 3) := by decide +kernel
theorem dX12_bothOn_40 : decode cX12_bothOn 40 = .ok (.iload_n 2, 1) := by decide +kernel
theorem dX12_bothOn_41 : decode cX12_bothOn 41 = .ok (.if_icmp .ne 17, 3) := by decide +kernel
theorem dX12_bothOn_44 : decode cX12_bothOn 44 = .ok (.aload_n 0, 1) := by decide +kernel
theorem dX12_bothOn_45 : decode cX12_bothOn 45 = .ok (.iload_n 1, 1) := by decide +kernel
theorem dX12_bothOn_46 : decode cX12_bothOn 46 = .ok (.iconst 1, 1) := by decide +kernel
theorem dX12_bothOn_47 : decode cX12_bothOn 47 = .ok (.invokevirtual 116, 3) := by decide +kernel
theorem dX12_bothOn_50 : decode cX12_bothOn 50 = .ok (.iload_n 3, 1) := by decide +kernel
theorem dX12_bothOn_51 : decode cX12_bothOn 51 = .ok (.if_icmp .ne 7, 3) := by decide +kernel
theorem dX12_bothOn_54 : decode cX12_bothOn 54 = .ok (.iconst 1, 1) := by decide +kernel
theorem dX12_bothOn_55 : decode cX12_bothOn 55 = .ok (.goto 4, 3) := by decide +kernel
theorem dX12_bothOn_58 : decode cX12_bothOn 58 = .ok (.iconst 0, 1) := by decide +kernel
theorem dX12_bothOn_59 : decode cX12_bothOn 59 = .ok (.istore 6, 2) := by decide +kernel
theorem dX12_bothOn_61 : decode cX12_bothOn 61 = .ok (.aload_n 0, 1) := by decide +kernel
theorem dX12_bothOn_62 : decode cX12_bothOn 62 = .ok (.invokevirtual 189, 3) := by decide +kernel
theorem dX12_bothOn_65 : decode cX12_bothOn 65 = .ok (.iload 6, 2) := by decide +kernel
theorem dX12_bothOn_67 : decode cX12_bothOn 67 = .ok (.ifCond .eq 11, 3) := by decide +kernel
theorem dX12_bothOn_70 : decode cX12_bothOn 70 = .ok (.iload 4, 2) := by decide +kernel
theorem dX12_bothOn_72 : decode cX12_bothOn 72 = .ok (.iload 5, 2) := by decide +kernel
theorem dX12_bothOn_74 : decode cX12_bothOn 74 = .ok (.iadd, 1) := by decide +kernel
theorem dX12_bothOn_75 : decode cX12_bothOn 75 = .ok (.goto 4, 3) := by decide +kernel
theorem dX12_bothOn_78 : decode cX12_bothOn 78 = .ok (.iconst (-1), 1) := by decide +kernel
theorem dX12_bothOn_79 : decode cX12_bothOn 79 = .ok (.ireturn, 1) := by decide +kernel
theorem dX12_comeBy_0 : decode cX12_comeBy 0 = .ok (.iload_n 1, 1) := by decide +kernel
theorem dX12_comeBy_1 : decode cX12_comeBy 1 = .ok (.iload_n 2, 1) := by decide +kernel
theorem dX12_comeBy_2 : decode cX12_comeBy 2 = .ok (.invokestatic 173, 3) := by decide +kernel
theorem dX12_comeBy_5 : decode cX12_comeBy 5 = .ok (.ifCond .ne 6, 3) := by decide +kernel
theorem dX12_comeBy_8 : decode cX12_comeBy 8 = .ok (.bipush (-101), 2) := by decide +kernel
theorem dX12_comeBy_10 : decode cX12_comeBy 10 = .ok (.ireturn, 1) := by decide +kernel
theorem dX12_comeBy_11 : decode cX12_comeBy 11 = .ok (.iload_n 3, 1) := by decide +kernel
theorem dX12_comeBy_12 : decode cX12_comeBy 12 = .ok (.i2l, 1) := by decide +kernel
theorem dX12_comeBy_13 : decode cX12_comeBy 13 = .ok (.lconst 0, 1) := by decide +kernel
theorem dX12_comeBy_14 : decode cX12_comeBy 14 = .ok (.lconst 1, 1) := by decide +kernel
theorem dX12_comeBy_15 : decode cX12_comeBy 15 = .ok (.invokestatic 62, 3) := by decide +kernel
theorem dX12_comeBy_18 : decode cX12_comeBy 18 = .ok (.ifCond .ne 6, 3) := by decide +kernel
theorem dX12_comeBy_21 : decode cX12_comeBy 21 = .ok (.bipush (-102), 2) := by decide +kernel
theorem dX12_comeBy_23 : decode cX12_comeBy 23 = .ok (.ireturn, 1) := by decide +kernel
theorem dX12_comeBy_24 : decode cX12_comeBy 24 = .ok (.aload_n 0, 1) := by decide +kernel
theorem dX12_comeBy_25 : decode cX12_comeBy 25 = .ok (.invokevirtual 139, 3) := by decide +kernel
theorem dX12_comeBy_28 : decode cX12_comeBy 28 = .ok (.ifCond .ne 19, 3) := by decide +kernel
theorem dX12_comeBy_31 : decode cX12_comeBy 31 = .ok (.aload_n 0, 1) := by decide +kernel
theorem dX12_comeBy_32 : decode cX12_comeBy 32 = .ok (.iload_n 1, 1) := by decide +kernel
theorem dX12_comeBy_33 : decode cX12_comeBy 33 = .ok (.invokevirtual 143, 3) := by decide +kernel
theorem dX12_comeBy_36 : decode cX12_comeBy 36 = .ok (.ifCond .eq 11, 3) := by decide +kernel
theorem dX12_comeBy_39 : decode cX12_comeBy 39 = .ok (.aload_n 0, 1) := by decide +kernel
theorem dX12_comeBy_40 : decode cX12_comeBy 40 = .ok (.iload_n 2, 1) := by decide +kernel
theorem dX12_comeBy_41 : decode cX12_comeBy 41 = .ok (.invokevirtual 143, 3) := by decide +kernel
theorem dX12_comeBy_44 : decode cX12_comeBy 44 = .ok (.ifCond .ne 6, 3) := by decide +kernel
theorem dX12_comeBy_47 : decode cX12_comeBy 47 = .ok (.bipush (-103), 2) := by decide +kernel
theorem dX12_comeBy_49 : decode cX12_comeBy 49 = .ok (.ireturn, 1) := by decide +kernel
theorem dX12_comeBy_50 : decode cX12_comeBy 50 = .ok (.aload_n 0, 1) := by decide +kernel
theorem dX12_comeBy_51 : decode cX12_comeBy 51 = .ok (.invokevirtual 192, 3) := by decide +kernel
theorem dX12_comeBy_54 : decode cX12_comeBy 54 = .ok (.iconst (-1), 1) := by decide +kernel
theorem dX12_comeBy_55 : decode cX12_comeBy 55 = .ok (.istore 4, 2) := by decide +kernel
theorem dX12_comeBy_57 : decode cX12_comeBy 57 = .ok (.iconst (-1), 1) := by decide +kernel
theorem dX12_comeBy_58 : decode cX12_comeBy 58 = .ok (.istore 5, 2) := by decide +kernel
theorem dX12_comeBy_60 : decode cX12_comeBy 60 = .ok (.iconst 0, 1) := by decide +kernel
theorem dX12_comeBy_61 : decode cX12_comeBy 61 = .ok (.istore 6, 2) := by decide +kernel
theorem dX12_comeBy_63 : decode cX12_comeBy 63 = .ok (.iload 6, 2) := by decide +kernel
theorem dX12_comeBy_65 : decode cX12_comeBy 65 = .ok (.iconst 2, 1) := by decide +kernel
theorem dX12_comeBy_66 : decode cX12_comeBy 66 = .ok (.aload_n 0, 1) := by decide +kernel
theorem dX12_comeBy_67 : decode cX12_comeBy 67 = .ok (.getfield 91, 3) := by decide +kernel
theorem dX12_comeBy_70 : decode cX12_comeBy 70 = .ok (.imul, 1) := by decide +kernel
theorem dX12_comeBy_71 : decode cX12_comeBy 71 = .ok (.if_icmp .ge 110, 3) := by decide +kernel
theorem dX12_comeBy_74 : decode cX12_comeBy 74 = .ok (.iload 6, 2) := by decide +kernel
theorem dX12_comeBy_76 : decode cX12_comeBy 76 = .ok (.iconst 2, 1) := by decide +kernel
theorem dX12_comeBy_77 : decode cX12_comeBy 77 = .ok (.idiv, 1) := by decide +kernel
theorem dX12_comeBy_78 : decode cX12_comeBy 78 = .ok (.istore 7, 2) := by decide +kernel
theorem dX12_comeBy_80 : decode cX12_comeBy 80 = .ok (.aload_n 0, 1) := by decide +kernel
theorem dX12_comeBy_81 : decode cX12_comeBy 81 = .ok (.iload 7, 2) := by decide +kernel
theorem dX12_comeBy_83 : decode cX12_comeBy 83 = .ok (.invokevirtual 113, 3) := by decide +kernel
theorem dX12_comeBy_86 : decode cX12_comeBy 86 = .ok (.ifCond .eq 7, 3) := by decide +kernel
theorem dX12_comeBy_89 : decode cX12_comeBy 89 = .ok (.iconst (-1), 1) := by decide +kernel
theorem dX12_comeBy_90 : decode cX12_comeBy 90 = .ok (.goto 29, 3) := by decide +kernel
theorem dX12_comeBy_93 : decode cX12_comeBy 93 = .ok (.iload 6, 2) := by decide +kernel
theorem dX12_comeBy_95 : decode cX12_comeBy 95 = .ok (.iconst 2, 1) := by decide +kernel
theorem dX12_comeBy_96 : decode cX12_comeBy 96 = .ok (.irem, 1) := by decide +kernel
theorem dX12_comeBy_97 : decode cX12_comeBy 97 = .ok (.ifCond .ne 14, 3) := by decide +kernel
theorem dX12_comeBy_100 : decode cX12_comeBy 100 = .ok (.aload_n 0, 1) := by decide +kernel
theorem dX12_comeBy_101 : decode cX12_comeBy 101 = .ok (.iload 7, 2) := by decide +kernel
theorem dX12_comeBy_103 : decode cX12_comeBy 103 = .ok (.iload_n 1, 1) := by decide +kernel
theorem dX12_comeBy_104 : decode cX12_comeBy 104 = .ok (.iload_n 2, 1) := by decide +kernel
theorem dX12_comeBy_105 : decode cX12_comeBy 105 = .ok (.invokevirtual 195, 3) := by decide +kernel
theorem dX12_comeBy_108 : decode cX12_comeBy 108 = .ok (.goto 11, 3) := by decide +kernel
theorem dX12_comeBy_111 : decode cX12_comeBy 111 = .ok (.aload_n 0, 1) := by decide +kernel
theorem dX12_comeBy_112 : decode cX12_comeBy 112 = .ok (.iload 7, 2) := by decide +kernel
theorem dX12_comeBy_114 : decode cX12_comeBy 114 = .ok (.iload_n 2, 1) := by decide +kernel
theorem dX12_comeBy_115 : decode cX12_comeBy 115 = .ok (.iload_n 1, 1) := by decide +kernel
theorem dX12_comeBy_116 : decode cX12_comeBy 116 = .ok (.invokevirtual 195, 3) := by decide +kernel
theorem dX12_comeBy_119 : decode cX12_comeBy 119 = .ok (.istore 8, 2) := by decide +kernel
theorem dX12_comeBy_121 : decode cX12_comeBy 121 = .ok (.iload 8, 2) := by decide +kernel
theorem dX12_comeBy_123 : decode cX12_comeBy 123 = .ok (.iconst (-1), 1) := by decide +kernel
theorem dX12_comeBy_124 : decode cX12_comeBy 124 = .ok (.if_icmp .eq 20, 3) := by decide +kernel
theorem dX12_comeBy_127 : decode cX12_comeBy 127 = .ok (.iload 4, 2) := by decide +kernel
theorem dX12_comeBy_129 : decode cX12_comeBy 129 = .ok (.iconst (-1), 1) := by decide +kernel
theorem dX12_comeBy_130 : decode cX12_comeBy 130 = .ok (.if_icmp .eq 10, 3) := by decide +kernel
theorem dX12_comeBy_133 : decode cX12_comeBy 133 = .ok (.iload 8, 2) := by decide +kernel
theorem dX12_comeBy_135 : decode cX12_comeBy 135 = .ok (.iload 4, 2) := by decide +kernel
theorem dX12_comeBy_137 : decode cX12_comeBy 137 = .ok (.if_icmp .ge 7, 3) := by decide +kernel
theorem dX12_comeBy_140 : decode cX12_comeBy 140 = .ok (.iconst 1, 1) := by decide +kernel
theorem dX12_comeBy_141 : decode cX12_comeBy 141 = .ok (.goto 4, 3) := by decide +kernel
theorem dX12_comeBy_144 : decode cX12_comeBy 144 = .ok (.iconst 0, 1) := by decide +kernel
theorem dX12_comeBy_145 : decode cX12_comeBy 145 = .ok (.istore 9, 2) := by decide +kernel
theorem dX12_comeBy_147 : decode cX12_comeBy 147 = .ok (.iload 9, 2) := by decide +kernel
theorem dX12_comeBy_149 : decode cX12_comeBy 149 = .ok (.ifCond .eq 8, 3) := by decide +kernel
theorem dX12_comeBy_152 : decode cX12_comeBy 152 = .ok (.iload 7, 2) := by decide +kernel
theorem dX12_comeBy_154 : decode cX12_comeBy 154 = .ok (.goto 5, 3) := by decide +kernel
theorem dX12_comeBy_157 : decode cX12_comeBy 157 = .ok (.iload 5, 2) := by decide +kernel
theorem dX12_comeBy_159 : decode cX12_comeBy 159 = .ok (.istore 5, 2) := by decide +kernel
theorem dX12_comeBy_161 : decode cX12_comeBy 161 = .ok (.iload 9, 2) := by decide +kernel
theorem dX12_comeBy_163 : decode cX12_comeBy 163 = .ok (.ifCond .eq 8, 3) := by decide +kernel
theorem dX12_comeBy_166 : decode cX12_comeBy 166 = .ok (.iload 8, 2) := by decide +kernel
theorem dX12_comeBy_168 : decode cX12_comeBy 168 = .ok (.goto 5, 3) := by decide +kernel
theorem dX12_comeBy_171 : decode cX12_comeBy 171 = .ok (.iload 4, 2) := by decide +kernel
theorem dX12_comeBy_173 : decode cX12_comeBy 173 = .ok (.istore 4, 2) := by decide +kernel
theorem dX12_comeBy_175 : decode cX12_comeBy 175 = .ok (.iinc 6 1, 3) := by decide +kernel
theorem dX12_comeBy_178 : decode cX12_comeBy 178 = .ok (.goto (-115), 3) := by decide +kernel
theorem dX12_comeBy_181 : decode cX12_comeBy 181 = .ok (.iload_n 3, 1) := by decide +kernel
theorem dX12_comeBy_182 : decode cX12_comeBy 182 = .ok (.ifCond .ne 8, 3) := by decide +kernel
theorem dX12_comeBy_185 : decode cX12_comeBy 185 = .ok (.iload 4, 2) := by decide +kernel
theorem dX12_comeBy_187 : decode cX12_comeBy 187 = .ok (.goto 5, 3) := by decide +kernel
theorem dX12_comeBy_190 : decode cX12_comeBy 190 = .ok (.iload 5, 2) := by decide +kernel
theorem dX12_comeBy_192 : decode cX12_comeBy 192 = .ok (.ireturn, 1) := by decide +kernel
theorem dX12_feudsOf_0 : decode cX12_feudsOf 0 = .ok (.iconst 0, 1) := by decide +kernel
theorem dX12_feudsOf_1 : decode cX12_feudsOf 1 = .ok (.istore_n 3, 1) := by decide +kernel
theorem dX12_feudsOf_2 : decode cX12_feudsOf 2 = .ok (.iconst 0, 1) := by decide +kernel
theorem dX12_feudsOf_3 : decode cX12_feudsOf 3 = .ok (.istore 4, 2) := by decide +kernel
theorem dX12_feudsOf_5 : decode cX12_feudsOf 5 = .ok (.iload 4, 2) := by decide +kernel
theorem dX12_feudsOf_7 : decode cX12_feudsOf 7 = .ok (.aload_n 0, 1) := by decide +kernel
theorem dX12_feudsOf_8 : decode cX12_feudsOf 8 = .ok (.getfield 91, 3) := by decide +kernel
theorem dX12_feudsOf_11 : decode cX12_feudsOf 11 = .ok (.if_icmp .ge 28, 3) := by decide +kernel
theorem dX12_feudsOf_14 : decode cX12_feudsOf 14 = .ok (.iload_n 3, 1) := by decide +kernel
theorem dX12_feudsOf_15 : decode cX12_feudsOf 15 = .ok (.aload_n 0, 1) := by decide +kernel
theorem dX12_feudsOf_16 : decode cX12_feudsOf 16 = .ok (.iload 4, 2) := by decide +kernel
theorem dX12_feudsOf_18 : decode cX12_feudsOf 18 = .ok (.iload_n 1, 1) := by decide +kernel
theorem dX12_feudsOf_19 : decode cX12_feudsOf 19 = .ok (.iload_n 2, 1) := by decide +kernel
theorem dX12_feudsOf_20 : decode cX12_feudsOf 20 = .ok (.invokevirtual 170, 3) := by decide +kernel
theorem dX12_feudsOf_23 : decode cX12_feudsOf 23 = .ok (.ifCond .eq 7, 3) := by decide +kernel
theorem dX12_feudsOf_26 : decode cX12_feudsOf 26 = .ok (.iconst 1, 1) := by decide +kernel
theorem dX12_feudsOf_27 : decode cX12_feudsOf 27 = .ok (.goto 4, 3) := by decide +kernel
theorem dX12_feudsOf_30 : decode cX12_feudsOf 30 = .ok (.iconst 0, 1) := by decide +kernel
theorem dX12_feudsOf_31 : decode cX12_feudsOf 31 = .ok (.iadd, 1) := by decide +kernel
theorem dX12_feudsOf_32 : decode cX12_feudsOf 32 = .ok (.istore_n 3, 1) := by decide +kernel
theorem dX12_feudsOf_33 : decode cX12_feudsOf 33 = .ok (.iinc 4 1, 3) := by decide +kernel
theorem dX12_feudsOf_36 : decode cX12_feudsOf 36 = .ok (.goto (-31), 3) := by decide +kernel
theorem dX12_feudsOf_39 : decode cX12_feudsOf 39 = .ok (.iload_n 3, 1) := by decide +kernel
theorem dX12_feudsOf_40 : decode cX12_feudsOf 40 = .ok (.ireturn, 1) := by decide +kernel
theorem dX12_marryOf_0 : decode cX12_marryOf 0 = .ok (.iconst 0, 1) := by decide +kernel
theorem dX12_marryOf_1 : decode cX12_marryOf 1 = .ok (.istore_n 2, 1) := by decide +kernel
theorem dX12_marryOf_2 : decode cX12_marryOf 2 = .ok (.iconst 0, 1) := by decide +kernel
theorem dX12_marryOf_3 : decode cX12_marryOf 3 = .ok (.istore_n 3, 1) := by decide +kernel
theorem dX12_marryOf_4 : decode cX12_marryOf 4 = .ok (.iload_n 3, 1) := by decide +kernel
theorem dX12_marryOf_5 : decode cX12_marryOf 5 = .ok (.bipush 6, 2) := by decide +kernel
theorem dX12_marryOf_7 : decode cX12_marryOf 7 = .ok (.if_icmp .ge 27, 3) := by decide +kernel
theorem dX12_marryOf_10 : decode cX12_marryOf 10 = .ok (.iload_n 2, 1) := by decide +kernel
theorem dX12_marryOf_11 : decode cX12_marryOf 11 = .ok (.aload_n 0, 1) := by decide +kernel
theorem dX12_marryOf_12 : decode cX12_marryOf 12 = .ok (.iload_n 3, 1) := by decide +kernel
theorem dX12_marryOf_13 : decode cX12_marryOf 13 = .ok (.invokevirtual 143, 3) := by decide +kernel
theorem dX12_marryOf_16 : decode cX12_marryOf 16 = .ok (.ifCond .eq 9, 3) := by decide +kernel
theorem dX12_marryOf_19 : decode cX12_marryOf 19 = .ok (.iconst 1, 1) := by decide +kernel
theorem dX12_marryOf_20 : decode cX12_marryOf 20 = .ok (.iload_n 3, 1) := by decide +kernel
theorem dX12_marryOf_21 : decode cX12_marryOf 21 = .ok (.ishl, 1) := by decide +kernel
theorem dX12_marryOf_22 : decode cX12_marryOf 22 = .ok (.goto 4, 3) := by decide +kernel
theorem dX12_marryOf_25 : decode cX12_marryOf 25 = .ok (.iconst 0, 1) := by decide +kernel
theorem dX12_marryOf_26 : decode cX12_marryOf 26 = .ok (.ior, 1) := by decide +kernel
theorem dX12_marryOf_27 : decode cX12_marryOf 27 = .ok (.istore_n 2, 1) := by decide +kernel
theorem dX12_marryOf_28 : decode cX12_marryOf 28 = .ok (.iinc 3 1, 3) := by decide +kernel
theorem dX12_marryOf_31 : decode cX12_marryOf 31 = .ok (.goto (-27), 3) := by decide +kernel
theorem dX12_marryOf_34 : decode cX12_marryOf 34 = .ok (.aload_n 0, 1) := by decide +kernel
theorem dX12_marryOf_35 : decode cX12_marryOf 35 = .ok (.getfield 31, 3) := by decide +kernel
theorem dX12_marryOf_38 : decode cX12_marryOf 38 = .ok (.iconst 0, 1) := by decide +kernel
theorem dX12_marryOf_39 : decode cX12_marryOf 39 = .ok (.iconst 0, 1) := by decide +kernel
theorem dX12_marryOf_40 : decode cX12_marryOf 40 = .ok (.iastore, 1) := by decide +kernel
theorem dX12_marryOf_41 : decode cX12_marryOf 41 = .ok (.iconst 1, 1) := by decide +kernel
theorem dX12_marryOf_42 : decode cX12_marryOf 42 = .ok (.istore_n 3, 1) := by decide +kernel
theorem dX12_marryOf_43 : decode cX12_marryOf 43 = .ok (.iload_n 3, 1) := by decide +kernel
theorem dX12_marryOf_44 : decode cX12_marryOf 44 = .ok (.bipush 64, 2) := by decide +kernel
theorem dX12_marryOf_46 : decode cX12_marryOf 46 = .ok (.if_icmp .ge 154, 3) := by decide +kernel
theorem dX12_marryOf_49 : decode cX12_marryOf 49 = .ok (.iconst 0, 1) := by decide +kernel
theorem dX12_marryOf_50 : decode cX12_marryOf 50 = .ok (.istore 4, 2) := by decide +kernel
theorem dX12_marryOf_52 : decode cX12_marryOf 52 = .ok (.iload_n 3, 1) := by decide +kernel
theorem dX12_marryOf_53 : decode cX12_marryOf 53 = .ok (.iload 4, 2) := by decide +kernel
theorem dX12_marryOf_55 : decode cX12_marryOf 55 = .ok (.ishr, 1) := by decide +kernel
theorem dX12_marryOf_56 : decode cX12_marryOf 56 = .ok (.iconst 1, 1) := by decide +kernel
theorem dX12_marryOf_57 : decode cX12_marryOf 57 = .ok (.iand, 1) := by decide +kernel
theorem dX12_marryOf_58 : decode cX12_marryOf 58 = .ok (.ifCond .ne 9, 3) := by decide +kernel
theorem dX12_marryOf_61 : decode cX12_marryOf 61 = .ok (.iinc 4 1, 3) := by decide +kernel
theorem dX12_marryOf_64 : decode cX12_marryOf 64 = .ok (.goto (-12), 3) := by decide +kernel
theorem dX12_marryOf_67 : decode cX12_marryOf 67 = .ok (.iload_n 3, 1) := by decide +kernel
theorem dX12_marryOf_68 : decode cX12_marryOf 68 = .ok (.iconst 1, 1) := by decide +kernel
theorem dX12_marryOf_69 : decode cX12_marryOf 69 = .ok (.iload 4, 2) := by decide +kernel
theorem dX12_marryOf_71 : decode cX12_marryOf 71 = .ok (.ishl, 1) := by decide +kernel
theorem dX12_marryOf_72 : decode cX12_marryOf 72 = .ok (.iconst (-1), 1) := by decide +kernel
theorem dX12_marryOf_73 : decode cX12_marryOf 73 = .ok (.ixor, 1) := by decide +kernel
theorem dX12_marryOf_74 : decode cX12_marryOf 74 = .ok (.iand, 1) := by decide +kernel
theorem dX12_marryOf_75 : decode cX12_marryOf 75 = .ok (.istore 5, 2) := by decide +kernel
theorem dX12_marryOf_77 : decode cX12_marryOf 77 = .ok (.aload_n 0, 1) := by decide +kernel
theorem dX12_marryOf_78 : decode cX12_marryOf 78 = .ok (.getfield 31, 3) := by decide +kernel
theorem dX12_marryOf_81 : decode cX12_marryOf 81 = .ok (.iload 5, 2) := by decide +kernel
theorem dX12_marryOf_83 : decode cX12_marryOf 83 = .ok (.iaload, 1) := by decide +kernel
theorem dX12_marryOf_84 : decode cX12_marryOf 84 = .ok (.istore 6, 2) := by decide +kernel
theorem dX12_marryOf_86 : decode cX12_marryOf 86 = .ok (.iload 4, 2) := by decide +kernel
theorem dX12_marryOf_88 : decode cX12_marryOf 88 = .ok (.iconst 1, 1) := by decide +kernel
theorem dX12_marryOf_89 : decode cX12_marryOf 89 = .ok (.iadd, 1) := by decide +kernel
theorem dX12_marryOf_90 : decode cX12_marryOf 90 = .ok (.istore 7, 2) := by decide +kernel
theorem dX12_marryOf_92 : decode cX12_marryOf 92 = .ok (.iload 7, 2) := by decide +kernel
theorem dX12_marryOf_94 : decode cX12_marryOf 94 = .ok (.bipush 6, 2) := by decide +kernel
theorem dX12_marryOf_96 : decode cX12_marryOf 96 = .ok (.if_icmp .ge 90, 3) := by decide +kernel
theorem dX12_marryOf_99 : decode cX12_marryOf 99 = .ok (.iload 5, 2) := by decide +kernel
theorem dX12_marryOf_101 : decode cX12_marryOf 101 = .ok (.iload 7, 2) := by decide +kernel
theorem dX12_marryOf_103 : decode cX12_marryOf 103 = .ok (.ishr, 1) := by decide +kernel
theorem dX12_marryOf_104 : decode cX12_marryOf 104 = .ok (.iconst 1, 1) := by decide +kernel
theorem dX12_marryOf_105 : decode cX12_marryOf 105 = .ok (.iand, 1) := by decide +kernel
theorem dX12_marryOf_106 : decode cX12_marryOf 106 = .ok (.iconst 1, 1) := by decide +kernel
theorem dX12_marryOf_107 : decode cX12_marryOf 107 = .ok (.if_icmp .ne 54, 3) := by decide +kernel
theorem dX12_marryOf_110 : decode cX12_marryOf 110 = .ok (.iload_n 2, 1) := by decide +kernel
theorem dX12_marryOf_111 : decode cX12_marryOf 111 = .ok (.iload 4, 2) := by decide +kernel
theorem dX12_marryOf_113 : decode cX12_marryOf 113 = .ok (.ishr, 1) := by decide +kernel
theorem dX12_marryOf_114 : decode cX12_marryOf 114 = .ok (.iconst 1, 1) := by decide +kernel
theorem dX12_marryOf_115 : decode cX12_marryOf 115 = .ok (.iand, 1) := by decide +kernel
theorem dX12_marryOf_116 : decode cX12_marryOf 116 = .ok (.iconst 1, 1) := by decide +kernel
theorem dX12_marryOf_117 : decode cX12_marryOf 117 = .ok (.if_icmp .ne 44, 3) := by decide +kernel
theorem dX12_marryOf_120 : decode cX12_marryOf 120 = .ok (.iload_n 2, 1) := by decide +kernel
theorem dX12_marryOf_121 : decode cX12_marryOf 121 = .ok (.iload 7, 2) := by decide +kernel
theorem dX12_marryOf_123 : decode cX12_marryOf 123 = .ok (.ishr, 1) := by decide +kernel
theorem dX12_marryOf_124 : decode cX12_marryOf 124 = .ok (.iconst 1, 1) := by decide +kernel
theorem dX12_marryOf_125 : decode cX12_marryOf 125 = .ok (.iand, 1) := by decide +kernel
theorem dX12_marryOf_126 : decode cX12_marryOf 126 = .ok (.iconst 1, 1) := by decide +kernel
theorem dX12_marryOf_127 : decode cX12_marryOf 127 = .ok (.if_icmp .ne 34, 3) := by decide +kernel
theorem dX12_marryOf_130 : decode cX12_marryOf 130 = .ok (.aload_n 0, 1) := by decide +kernel
theorem dX12_marryOf_131 : decode cX12_marryOf 131 = .ok (.getfield 31, 3) := by decide +kernel
theorem dX12_marryOf_134 : decode cX12_marryOf 134 = .ok (.iload 5, 2) := by decide +kernel
theorem dX12_marryOf_136 : decode cX12_marryOf 136 = .ok (.iconst 1, 1) := by decide +kernel
theorem dX12_marryOf_137 : decode cX12_marryOf 137 = .ok (.iload 7, 2) := by decide +kernel
theorem dX12_marryOf_139 : decode cX12_marryOf 139 = .ok (.ishl, 1) := by decide +kernel
theorem dX12_marryOf_140 : decode cX12_marryOf 140 = .ok (.iconst (-1), 1) := by decide +kernel
theorem dX12_marryOf_141 : decode cX12_marryOf 141 = .ok (.ixor, 1) := by decide +kernel
theorem dX12_marryOf_142 : decode cX12_marryOf 142 = .ok (.iand, 1) := by decide +kernel
theorem dX12_marryOf_143 : decode cX12_marryOf 143 = .ok (.iaload, 1) := by decide +kernel
theorem dX12_marryOf_144 : decode cX12_marryOf 144 = .ok (.bipush 100, 2) := by decide +kernel
theorem dX12_marryOf_146 : decode cX12_marryOf 146 = .ok (.aload_n 0, 1) := by decide +kernel
theorem dX12_marryOf_147 : decode cX12_marryOf 147 = .ok (.iload 4, 2) := by decide +kernel
theorem dX12_marryOf_149 : decode cX12_marryOf 149 = .ok (.iload 7, 2) := by decide +kernel
theorem dX12_marryOf_151 : decode cX12_marryOf 151 = .ok (.invokevirtual 198, 3) := by decide +kernel
theorem dX12_marryOf_154 : decode cX12_marryOf 154 = .ok (.imul, 1) := by decide +kernel
theorem dX12_marryOf_155 : decode cX12_marryOf 155 = .ok (.iadd, 1) := by decide +kernel
theorem dX12_marryOf_156 : decode cX12_marryOf 156 = .ok (.iconst 1, 1) := by decide +kernel
theorem dX12_marryOf_157 : decode cX12_marryOf 157 = .ok (.isub, 1) := by decide +kernel
theorem dX12_marryOf_158 : decode cX12_marryOf 158 = .ok (.goto 4, 3) := by decide +kernel
end
section
theorem dX12_marryOf_161 : decode cX12_marryOf 161 = .ok (.iconst (-1), 1) := by decide +kernel
theorem dX12_marryOf_162 : decode cX12_marryOf 162 = .ok (.istore 8, 2) := by decide +kernel
theorem dX12_marryOf_164 : decode cX12_marryOf 164 = .ok (.iload 8, 2) := by decide +kernel
theorem dX12_marryOf_166 : decode cX12_marryOf 166 = .ok (.iload 6, 2) := by decide +kernel
theorem dX12_marryOf_168 : decode cX12_marryOf 168 = .ok (.if_icmp .le 8, 3) := by decide +kernel
theorem dX12_marryOf_171 : decode cX12_marryOf 171 = .ok (.iload 8, 2) := by decide +kernel
theorem dX12_marryOf_173 : decode cX12_marryOf 173 = .ok (.goto 5, 3) := by decide +kernel
theorem dX12_marryOf_176 : decode cX12_marryOf 176 = .ok (.iload 6, 2) := by decide +kernel
theorem dX12_marryOf_178 : decode cX12_marryOf 178 = .ok (.istore 6, 2) := by decide +kernel
theorem dX12_marryOf_180 : decode cX12_marryOf 180 = .ok (.iinc 7 1, 3) := by decide +kernel
theorem dX12_marryOf_183 : decode cX12_marryOf 183 = .ok (.goto (-91), 3) := by decide +kernel
theorem dX12_marryOf_186 : decode cX12_marryOf 186 = .ok (.aload_n 0, 1) := by decide +kernel
theorem dX12_marryOf_187 : decode cX12_marryOf 187 = .ok (.getfield 31, 3) := by decide +kernel
theorem dX12_marryOf_190 : decode cX12_marryOf 190 = .ok (.iload_n 3, 1) := by decide +kernel
theorem dX12_marryOf_191 : decode cX12_marryOf 191 = .ok (.iload 6, 2) := by decide +kernel
theorem dX12_marryOf_193 : decode cX12_marryOf 193 = .ok (.iastore, 1) := by decide +kernel
theorem dX12_marryOf_194 : decode cX12_marryOf 194 = .ok (.iinc 3 1, 3) := by decide +kernel
theorem dX12_marryOf_197 : decode cX12_marryOf 197 = .ok (.goto (-154), 3) := by decide +kernel
theorem dX12_marryOf_200 : decode cX12_marryOf 200 = .ok (.aload_n 0, 1) := by decide +kernel
theorem dX12_marryOf_201 : decode cX12_marryOf 201 = .ok (.getfield 31, 3) := by decide +kernel
theorem dX12_marryOf_204 : decode cX12_marryOf 204 = .ok (.bipush 63, 2) := by decide +kernel
theorem dX12_marryOf_206 : decode cX12_marryOf 206 = .ok (.iaload, 1) := by decide +kernel
theorem dX12_marryOf_207 : decode cX12_marryOf 207 = .ok (.istore_n 3, 1) := by decide +kernel
theorem dX12_marryOf_208 : decode cX12_marryOf 208 = .ok (.iload_n 3, 1) := by decide +kernel
theorem dX12_marryOf_209 : decode cX12_marryOf 209 = .ok (.bipush 99, 2) := by decide +kernel
theorem dX12_marryOf_211 : decode cX12_marryOf 211 = .ok (.iadd, 1) := by decide +kernel
theorem dX12_marryOf_212 : decode cX12_marryOf 212 = .ok (.bipush 100, 2) := by decide +kernel
theorem dX12_marryOf_214 : decode cX12_marryOf 214 = .ok (.idiv, 1) := by decide +kernel
theorem dX12_marryOf_215 : decode cX12_marryOf 215 = .ok (.istore 4, 2) := by decide +kernel
theorem dX12_marryOf_217 : decode cX12_marryOf 217 = .ok (.iload_n 1, 1) := by decide +kernel
theorem dX12_marryOf_218 : decode cX12_marryOf 218 = .ok (.ifCond .ne 8, 3) := by decide +kernel
theorem dX12_marryOf_221 : decode cX12_marryOf 221 = .ok (.iload 4, 2) := by decide +kernel
theorem dX12_marryOf_223 : decode cX12_marryOf 223 = .ok (.goto 10, 3) := by decide +kernel
theorem dX12_marryOf_226 : decode cX12_marryOf 226 = .ok (.bipush 100, 2) := by decide +kernel
theorem dX12_marryOf_228 : decode cX12_marryOf 228 = .ok (.iload 4, 2) := by decide +kernel
theorem dX12_marryOf_230 : decode cX12_marryOf 230 = .ok (.imul, 1) := by decide +kernel
theorem dX12_marryOf_231 : decode cX12_marryOf 231 = .ok (.iload_n 3, 1) := by decide +kernel
theorem dX12_marryOf_232 : decode cX12_marryOf 232 = .ok (.isub, 1) := by decide +kernel
theorem dX12_marryOf_233 : decode cX12_marryOf 233 = .ok (.ireturn, 1) := by decide +kernel
theorem dX12_marry_0 : decode cX12_marry 0 = .ok (.iload_n 1, 1) := by decide +kernel
theorem dX12_marry_1 : decode cX12_marry 1 = .ok (.i2l, 1) := by decide +kernel
theorem dX12_marry_2 : decode cX12_marry 2 = .ok (.lconst 0, 1) := by decide +kernel
theorem dX12_marry_3 : decode cX12_marry 3 = .ok (.lconst 1, 1) := by decide +kernel
theorem dX12_marry_4 : decode cX12_marry 4 = .ok (.invokestatic 62, 3) := by decide +kernel
theorem dX12_marry_7 : decode cX12_marry 7 = .ok (.ifCond .ne 6, 3) := by decide +kernel
theorem dX12_marry_10 : decode cX12_marry 10 = .ok (.bipush (-102), 2) := by decide +kernel
theorem dX12_marry_12 : decode cX12_marry 12 = .ok (.ireturn, 1) := by decide +kernel
theorem dX12_marry_13 : decode cX12_marry 13 = .ok (.aload_n 0, 1) := by decide +kernel
theorem dX12_marry_14 : decode cX12_marry 14 = .ok (.invokevirtual 139, 3) := by decide +kernel
theorem dX12_marry_17 : decode cX12_marry 17 = .ok (.ifCond .eq 8, 3) := by decide +kernel
theorem dX12_marry_20 : decode cX12_marry 20 = .ok (.bipush (-103), 2) := by decide +kernel
theorem dX12_marry_22 : decode cX12_marry 22 = .ok (.goto 8, 3) := by decide +kernel
theorem dX12_marry_25 : decode cX12_marry 25 = .ok (.aload_n 0, 1) := by decide +kernel
theorem dX12_marry_26 : decode cX12_marry 26 = .ok (.iload_n 1, 1) := by decide +kernel
theorem dX12_marry_27 : decode cX12_marry 27 = .ok (.invokevirtual 201, 3) := by decide +kernel
theorem dX12_marry_30 : decode cX12_marry 30 = .ok (.ireturn, 1) := by decide +kernel
theorem dX12_wills_0 : decode cX12_wills 0 = .ok (.iload_n 2, 1) := by decide +kernel
theorem dX12_wills_1 : decode cX12_wills 1 = .ok (.invokestatic 103, 3) := by decide +kernel
theorem dX12_wills_4 : decode cX12_wills 4 = .ok (.ifCond .ne 6, 3) := by decide +kernel
theorem dX12_wills_7 : decode cX12_wills 7 = .ok (.bipush (-101), 2) := by decide +kernel
theorem dX12_wills_9 : decode cX12_wills 9 = .ok (.ireturn, 1) := by decide +kernel
theorem dX12_wills_10 : decode cX12_wills 10 = .ok (.iload_n 1, 1) := by decide +kernel
theorem dX12_wills_11 : decode cX12_wills 11 = .ok (.i2l, 1) := by decide +kernel
theorem dX12_wills_12 : decode cX12_wills 12 = .ok (.lconst 0, 1) := by decide +kernel
theorem dX12_wills_13 : decode cX12_wills 13 = .ok (.ldc2_w 204, 3) := by decide +kernel
theorem dX12_wills_16 : decode cX12_wills 16 = .ok (.invokestatic 62, 3) := by decide +kernel
theorem dX12_wills_19 : decode cX12_wills 19 = .ok (.ifCond .ne 6, 3) := by decide +kernel
theorem dX12_wills_22 : decode cX12_wills 22 = .ok (.bipush (-102), 2) := by decide +kernel
theorem dX12_wills_24 : decode cX12_wills 24 = .ok (.ireturn, 1) := by decide +kernel
theorem dX12_wills_25 : decode cX12_wills 25 = .ok (.aload_n 0, 1) := by decide +kernel
theorem dX12_wills_26 : decode cX12_wills 26 = .ok (.invokevirtual 139, 3) := by decide +kernel
theorem dX12_wills_29 : decode cX12_wills 29 = .ok (.ifCond .eq 6, 3) := by decide +kernel
theorem dX12_wills_32 : decode cX12_wills 32 = .ok (.bipush (-103), 2) := by decide +kernel
theorem dX12_wills_34 : decode cX12_wills 34 = .ok (.ireturn, 1) := by decide +kernel
theorem dX12_wills_35 : decode cX12_wills 35 = .ok (.aload_n 0, 1) := by decide +kernel
theorem dX12_wills_36 : decode cX12_wills 36 = .ok (.invokevirtual 192, 3) := by decide +kernel
theorem dX12_wills_39 : decode cX12_wills 39 = .ok (.iconst 0, 1) := by decide +kernel
theorem dX12_wills_40 : decode cX12_wills 40 = .ok (.istore_n 3, 1) := by decide +kernel
theorem dX12_wills_41 : decode cX12_wills 41 = .ok (.iload_n 3, 1) := by decide +kernel
theorem dX12_wills_42 : decode cX12_wills 42 = .ok (.bipush 6, 2) := by decide +kernel
theorem dX12_wills_44 : decode cX12_wills 44 = .ok (.if_icmp .ge 33, 3) := by decide +kernel
theorem dX12_wills_47 : decode cX12_wills 47 = .ok (.iload_n 1, 1) := by decide +kernel
theorem dX12_wills_48 : decode cX12_wills 48 = .ok (.iload_n 3, 1) := by decide +kernel
theorem dX12_wills_49 : decode cX12_wills 49 = .ok (.ishr, 1) := by decide +kernel
theorem dX12_wills_50 : decode cX12_wills 50 = .ok (.iconst 1, 1) := by decide +kernel
theorem dX12_wills_51 : decode cX12_wills 51 = .ok (.iand, 1) := by decide +kernel
theorem dX12_wills_52 : decode cX12_wills 52 = .ok (.iconst 1, 1) := by decide +kernel
theorem dX12_wills_53 : decode cX12_wills 53 = .ok (.if_icmp .ne 18, 3) := by decide +kernel
theorem dX12_wills_56 : decode cX12_wills 56 = .ok (.aload_n 0, 1) := by decide +kernel
theorem dX12_wills_57 : decode cX12_wills 57 = .ok (.iload_n 3, 1) := by decide +kernel
theorem dX12_wills_58 : decode cX12_wills 58 = .ok (.invokevirtual 143, 3) := by decide +kernel
theorem dX12_wills_61 : decode cX12_wills 61 = .ok (.ifCond .eq 10, 3) := by decide +kernel
theorem dX12_wills_64 : decode cX12_wills 64 = .ok (.aload_n 0, 1) := by decide +kernel
theorem dX12_wills_65 : decode cX12_wills 65 = .ok (.iload_n 3, 1) := by decide +kernel
theorem dX12_wills_66 : decode cX12_wills 66 = .ok (.invokevirtual 167, 3) := by decide +kernel
theorem dX12_wills_69 : decode cX12_wills 69 = .ok (.istore 4, 2) := by decide +kernel
theorem dX12_wills_71 : decode cX12_wills 71 = .ok (.iinc 3 1, 3) := by decide +kernel
theorem dX12_wills_74 : decode cX12_wills 74 = .ok (.goto (-33), 3) := by decide +kernel
theorem dX12_wills_77 : decode cX12_wills 77 = .ok (.iconst 0, 1) := by decide +kernel
theorem dX12_wills_78 : decode cX12_wills 78 = .ok (.istore_n 3, 1) := by decide +kernel
theorem dX12_wills_79 : decode cX12_wills 79 = .ok (.iconst 0, 1) := by decide +kernel
theorem dX12_wills_80 : decode cX12_wills 80 = .ok (.istore 4, 2) := by decide +kernel
theorem dX12_wills_82 : decode cX12_wills 82 = .ok (.iload 4, 2) := by decide +kernel
theorem dX12_wills_84 : decode cX12_wills 84 = .ok (.iconst 2, 1) := by decide +kernel
theorem dX12_wills_85 : decode cX12_wills 85 = .ok (.aload_n 0, 1) := by decide +kernel
theorem dX12_wills_86 : decode cX12_wills 86 = .ok (.getfield 91, 3) := by decide +kernel
theorem dX12_wills_89 : decode cX12_wills 89 = .ok (.imul, 1) := by decide +kernel
theorem dX12_wills_90 : decode cX12_wills 90 = .ok (.if_icmp .ge 47, 3) := by decide +kernel
theorem dX12_wills_93 : decode cX12_wills 93 = .ok (.iload_n 3, 1) := by decide +kernel
theorem dX12_wills_94 : decode cX12_wills 94 = .ok (.aload_n 0, 1) := by decide +kernel
theorem dX12_wills_95 : decode cX12_wills 95 = .ok (.iload 4, 2) := by decide +kernel
theorem dX12_wills_97 : decode cX12_wills 97 = .ok (.iconst 2, 1) := by decide +kernel
theorem dX12_wills_98 : decode cX12_wills 98 = .ok (.idiv, 1) := by decide +kernel
theorem dX12_wills_99 : decode cX12_wills 99 = .ok (.invokevirtual 113, 3) := by decide +kernel
theorem dX12_wills_102 : decode cX12_wills 102 = .ok (.ifCond .ne 26, 3) := by decide +kernel
theorem dX12_wills_105 : decode cX12_wills 105 = .ok (.aload_n 0, 1) := by decide +kernel
theorem dX12_wills_106 : decode cX12_wills 106 = .ok (.iload 4, 2) := by decide +kernel
theorem dX12_wills_108 : decode cX12_wills 108 = .ok (.iconst 2, 1) := by decide +kernel
theorem dX12_wills_109 : decode cX12_wills 109 = .ok (.idiv, 1) := by decide +kernel
theorem dX12_wills_110 : decode cX12_wills 110 = .ok (.iload 4, 2) := by decide +kernel
theorem dX12_wills_112 : decode cX12_wills 112 = .ok (.iconst 2, 1) := by decide +kernel
theorem dX12_wills_113 : decode cX12_wills 113 = .ok (.irem, 1) := by decide +kernel
theorem dX12_wills_114 : decode cX12_wills 114 = .ok (.invokevirtual 116, 3) := by decide +kernel
theorem dX12_wills_117 : decode cX12_wills 117 = .ok (.iload_n 2, 1) := by decide +kernel
theorem dX12_wills_118 : decode cX12_wills 118 = .ok (.if_icmp .ne 10, 3) := by decide +kernel
theorem dX12_wills_121 : decode cX12_wills 121 = .ok (.iconst 1, 1) := by decide +kernel
theorem dX12_wills_122 : decode cX12_wills 122 = .ok (.iload 4, 2) := by decide +kernel
theorem dX12_wills_124 : decode cX12_wills 124 = .ok (.ishl, 1) := by decide +kernel
theorem dX12_wills_125 : decode cX12_wills 125 = .ok (.goto 4, 3) := by decide +kernel
theorem dX12_wills_128 : decode cX12_wills 128 = .ok (.iconst 0, 1) := by decide +kernel
theorem dX12_wills_129 : decode cX12_wills 129 = .ok (.ior, 1) := by decide +kernel
theorem dX12_wills_130 : decode cX12_wills 130 = .ok (.istore_n 3, 1) := by decide +kernel
theorem dX12_wills_131 : decode cX12_wills 131 = .ok (.iinc 4 1, 3) := by decide +kernel
theorem dX12_wills_134 : decode cX12_wills 134 = .ok (.goto (-52), 3) := by decide +kernel
theorem dX12_wills_137 : decode cX12_wills 137 = .ok (.aload_n 0, 1) := by decide +kernel
theorem dX12_wills_138 : decode cX12_wills 138 = .ok (.invokevirtual 189, 3) := by decide +kernel
theorem dX12_wills_141 : decode cX12_wills 141 = .ok (.iload_n 3, 1) := by decide +kernel
theorem dX12_wills_142 : decode cX12_wills 142 = .ok (.ireturn, 1) := by decide +kernel
theorem dX12_term_0 : decode cX12_term 0 = .ok (.lload_n 0, 1) := by decide +kernel
theorem dX12_term_1 : decode cX12_term 1 = .ok (.lstore 5, 2) := by decide +kernel
theorem dX12_term_3 : decode cX12_term 3 = .ok (.lload_n 2, 1) := by decide +kernel
theorem dX12_term_4 : decode cX12_term 4 = .ok (.lstore 7, 2) := by decide +kernel
theorem dX12_term_6 : decode cX12_term 6 = .ok (.lload 5, 2) := by decide +kernel
theorem dX12_term_8 : decode cX12_term 8 = .ok (.lconst 0, 1) := by decide +kernel
theorem dX12_term_9 : decode cX12_term 9 = .ok (.lcmp, 1) := by decide +kernel
theorem dX12_term_10 : decode cX12_term 10 = .ok (.ifCond .eq 21, 3) := by decide +kernel
theorem dX12_term_13 : decode cX12_term 13 = .ok (.lload 7, 2) := by decide +kernel
theorem dX12_term_15 : decode cX12_term 15 = .ok (.lload 5, 2) := by decide +kernel
theorem dX12_term_17 : decode cX12_term 17 = .ok (.lrem, 1) := by decide +kernel
theorem dX12_term_18 : decode cX12_term 18 = .ok (.lstore 9, 2) := by decide +kernel
theorem dX12_term_20 : decode cX12_term 20 = .ok (.lload 5, 2) := by decide +kernel
theorem dX12_term_22 : decode cX12_term 22 = .ok (.lstore 7, 2) := by decide +kernel
theorem dX12_term_24 : decode cX12_term 24 = .ok (.lload 9, 2) := by decide +kernel
theorem dX12_term_26 : decode cX12_term 26 = .ok (.lstore 5, 2) := by decide +kernel
theorem dX12_term_28 : decode cX12_term 28 = .ok (.goto (-22), 3) := by decide +kernel
theorem dX12_term_31 : decode cX12_term 31 = .ok (.iload 4, 2) := by decide +kernel
theorem dX12_term_33 : decode cX12_term 33 = .ok (.ifCond .ne 10, 3) := by decide +kernel
theorem dX12_term_36 : decode cX12_term 36 = .ok (.lload_n 0, 1) := by decide +kernel
theorem dX12_term_37 : decode cX12_term 37 = .ok (.lload 7, 2) := by decide +kernel
theorem dX12_term_39 : decode cX12_term 39 = .ok (.ldiv, 1) := by decide +kernel
theorem dX12_term_40 : decode cX12_term 40 = .ok (.goto 7, 3) := by decide +kernel
theorem dX12_term_43 : decode cX12_term 43 = .ok (.lload_n 2, 1) := by decide +kernel
theorem dX12_term_44 : decode cX12_term 44 = .ok (.lload 7, 2) := by decide +kernel
theorem dX12_term_46 : decode cX12_term 46 = .ok (.ldiv, 1) := by decide +kernel
theorem dX12_term_47 : decode cX12_term 47 = .ok (.lreturn, 1) := by decide +kernel
theorem dX12_left_0 : decode cX12_left 0 = .ok (.iload_n 1, 1) := by decide +kernel
theorem dX12_left_1 : decode cX12_left 1 = .ok (.i2l, 1) := by decide +kernel
theorem dX12_left_2 : decode cX12_left 2 = .ok (.lconst 1, 1) := by decide +kernel
theorem dX12_left_3 : decode cX12_left 3 = .ok (.ldc2_w 206, 3) := by decide +kernel
theorem dX12_left_6 : decode cX12_left 6 = .ok (.invokestatic 62, 3) := by decide +kernel
theorem dX12_left_9 : decode cX12_left 9 = .ok (.ifCond .eq 25, 3) := by decide +kernel
theorem dX12_left_12 : decode cX12_left 12 = .ok (.iload_n 2, 1) := by decide +kernel
theorem dX12_left_13 : decode cX12_left 13 = .ok (.i2l, 1) := by decide +kernel
theorem dX12_left_14 : decode cX12_left 14 = .ok (.lconst 0, 1) := by decide +kernel
theorem dX12_left_15 : decode cX12_left 15 = .ok (.ldc2_w 208, 3) := by decide +kernel
theorem dX12_left_18 : decode cX12_left 18 = .ok (.invokestatic 62, 3) := by decide +kernel
theorem dX12_left_21 : decode cX12_left 21 = .ok (.ifCond .eq 13, 3) := by decide +kernel
theorem dX12_left_24 : decode cX12_left 24 = .ok (.iload_n 3, 1) := by decide +kernel
theorem dX12_left_25 : decode cX12_left 25 = .ok (.i2l, 1) := by decide +kernel
theorem dX12_left_26 : decode cX12_left 26 = .ok (.lconst 0, 1) := by decide +kernel
theorem dX12_left_27 : decode cX12_left 27 = .ok (.lconst 1, 1) := by decide +kernel
theorem dX12_left_28 : decode cX12_left 28 = .ok (.invokestatic 62, 3) := by decide +kernel
theorem dX12_left_31 : decode cX12_left 31 = .ok (.ifCond .ne 7, 3) := by decide +kernel
theorem dX12_left_34 : decode cX12_left 34 = .ok (.ldc2_w 210, 3) := by decide +kernel
theorem dX12_left_37 : decode cX12_left 37 = .ok (.lreturn, 1) := by decide +kernel
theorem dX12_left_38 : decode cX12_left 38 = .ok (.aload_n 0, 1) := by decide +kernel
theorem dX12_left_39 : decode cX12_left 39 = .ok (.invokevirtual 139, 3) := by decide +kernel
theorem dX12_left_42 : decode cX12_left 42 = .ok (.ifCond .eq 7, 3) := by decide +kernel
theorem dX12_left_45 : decode cX12_left 45 = .ok (.ldc2_w 212, 3) := by decide +kernel
theorem dX12_left_48 : decode cX12_left 48 = .ok (.lreturn, 1) := by decide +kernel
theorem dX12_left_49 : decode cX12_left 49 = .ok (.iconst 0, 1) := by decide +kernel
theorem dX12_left_50 : decode cX12_left 50 = .ok (.istore 4, 2) := by decide +kernel
theorem dX12_left_52 : decode cX12_left 52 = .ok (.iload 4, 2) := by decide +kernel
theorem dX12_left_54 : decode cX12_left 54 = .ok (.bipush 10, 2) := by decide +kernel
theorem dX12_left_56 : decode cX12_left 56 = .ok (.if_icmp .ge 26, 3) := by decide +kernel
theorem dX12_left_59 : decode cX12_left 59 = .ok (.aload_n 0, 1) := by decide +kernel
theorem dX12_left_60 : decode cX12_left 60 = .ok (.getfield 34, 3) := by decide +kernel
theorem dX12_left_63 : decode cX12_left 63 = .ok (.iload 4, 2) := by decide +kernel
theorem dX12_left_65 : decode cX12_left 65 = .ok (.iload 4, 2) := by decide +kernel
theorem dX12_left_67 : decode cX12_left 67 = .ok (.ifCond .ne 7, 3) := by decide +kernel
theorem dX12_left_70 : decode cX12_left 70 = .ok (.lconst 1, 1) := by decide +kernel
theorem dX12_left_71 : decode cX12_left 71 = .ok (.goto 4, 3) := by decide +kernel
theorem dX12_left_74 : decode cX12_left 74 = .ok (.lconst 0, 1) := by decide +kernel
theorem dX12_left_75 : decode cX12_left 75 = .ok (.lastore, 1) := by decide +kernel
theorem dX12_left_76 : decode cX12_left 76 = .ok (.iinc 4 1, 3) := by decide +kernel
theorem dX12_left_79 : decode cX12_left 79 = .ok (.goto (-27), 3) := by decide +kernel
theorem dX12_left_82 : decode cX12_left 82 = .ok (.lconst 1, 1) := by decide +kernel
theorem dX12_left_83 : decode cX12_left 83 = .ok (.lstore 4, 2) := by decide +kernel
theorem dX12_left_85 : decode cX12_left 85 = .ok (.iconst 0, 1) := by decide +kernel
theorem dX12_left_86 : decode cX12_left 86 = .ok (.istore 6, 2) := by decide +kernel
theorem dX12_left_88 : decode cX12_left 88 = .ok (.iload 6, 2) := by decide +kernel
theorem dX12_left_90 : decode cX12_left 90 = .ok (.aload_n 0, 1) := by decide +kernel
theorem dX12_left_91 : decode cX12_left 91 = .ok (.getfield 91, 3) := by decide +kernel
theorem dX12_left_94 : decode cX12_left 94 = .ok (.if_icmp .ge 134, 3) := by decide +kernel
theorem dX12_left_97 : decode cX12_left 97 = .ok (.aload_n 0, 1) := by decide +kernel
theorem dX12_left_98 : decode cX12_left 98 = .ok (.iload 6, 2) := by decide +kernel
theorem dX12_left_100 : decode cX12_left 100 = .ok (.invokevirtual 113, 3) := by decide +kernel
theorem dX12_left_103 : decode cX12_left 103 = .ok (.ifCond .ne 119, 3) := by decide +kernel
theorem dX12_left_106 : decode cX12_left 106 = .ok (.aload_n 0, 1) := by decide +kernel
theorem dX12_left_107 : decode cX12_left 107 = .ok (.getfield 16, 3) := by decide +kernel
theorem dX12_left_110 : decode cX12_left 110 = .ok (.bipush 7, 2) := by decide +kernel
theorem dX12_left_112 : decode cX12_left 112 = .ok (.iload 6, 2) := by decide +kernel
theorem dX12_left_114 : decode cX12_left 114 = .ok (.imul, 1) := by decide +kernel
theorem dX12_left_115 : decode cX12_left 115 = .ok (.iconst 1, 1) := by decide +kernel
theorem dX12_left_116 : decode cX12_left 116 = .ok (.iadd, 1) := by decide +kernel
theorem dX12_left_117 : decode cX12_left 117 = .ok (.iaload, 1) := by decide +kernel
theorem dX12_left_118 : decode cX12_left 118 = .ok (.i2l, 1) := by decide +kernel
theorem dX12_left_119 : decode cX12_left 119 = .ok (.lstore 7, 2) := by decide +kernel
theorem dX12_left_121 : decode cX12_left 121 = .ok (.iload_n 1, 1) := by decide +kernel
theorem dX12_left_122 : decode cX12_left 122 = .ok (.iconst 1, 1) := by decide +kernel
theorem dX12_left_123 : decode cX12_left 123 = .ok (.if_icmp .ne 8, 3) := by decide +kernel
theorem dX12_left_126 : decode cX12_left 126 = .ok (.lload 7, 2) := by decide +kernel
theorem dX12_left_128 : decode cX12_left 128 = .ok (.goto 8, 3) := by decide +kernel
theorem dX12_left_131 : decode cX12_left 131 = .ok (.lload 7, 2) := by decide +kernel
theorem dX12_left_133 : decode cX12_left 133 = .ok (.lload 7, 2) := by decide +kernel
theorem dX12_left_135 : decode cX12_left 135 = .ok (.lmul, 1) := by decide +kernel
theorem dX12_left_136 : decode cX12_left 136 = .ok (.lstore 9, 2) := by decide +kernel
theorem dX12_left_138 : decode cX12_left 138 = .ok (.iload_n 1, 1) := by decide +kernel
theorem dX12_left_139 : decode cX12_left 139 = .ok (.iconst 1, 1) := by decide +kernel
theorem dX12_left_140 : decode cX12_left 140 = .ok (.if_icmp .ne 9, 3) := by decide +kernel
theorem dX12_left_143 : decode cX12_left 143 = .ok (.ldc2_w 214, 3) := by decide +kernel
theorem dX12_left_146 : decode cX12_left 146 = .ok (.goto 6, 3) := by decide +kernel
theorem dX12_left_149 : decode cX12_left 149 = .ok (.ldc2_w 216, 3) := by decide +kernel
theorem dX12_left_152 : decode cX12_left 152 = .ok (.lstore 11, 2) := by decide +kernel
theorem dX12_left_154 : decode cX12_left 154 = .ok (.bipush 8, 2) := by decide +kernel
theorem dX12_left_156 : decode cX12_left 156 = .ok (.istore 13, 2) := by decide +kernel
theorem dX12_left_158 : decode cX12_left 158 = .ok (.iload 13, 2) := by decide +kernel
theorem dX12_left_160 : decode cX12_left 160 = .ok (.ifCond .lt 55, 3) := by decide +kernel
theorem dX12_left_163 : decode cX12_left 163 = .ok (.iload 13, 2) := by decide +kernel
theorem dX12_left_165 : decode cX12_left 165 = .ok (.ifCond .ne 7, 3) := by decide +kernel
theorem dX12_left_168 : decode cX12_left 168 = .ok (.lconst 0, 1) := by decide +kernel
theorem dX12_left_169 : decode cX12_left 169 = .ok (.goto 15, 3) := by decide +kernel
theorem dX12_left_172 : decode cX12_left 172 = .ok (.aload_n 0, 1) := by decide +kernel
theorem dX12_left_173 : decode cX12_left 173 = .ok (.getfield 34, 3) := by decide +kernel
theorem dX12_left_176 : decode cX12_left 176 = .ok (.iload 13, 2) := by decide +kernel
theorem dX12_left_178 : decode cX12_left 178 = .ok (.iconst 1, 1) := by decide +kernel
theorem dX12_left_179 : decode cX12_left 179 = .ok (.isub, 1) := by decide +kernel
theorem dX12_left_180 : decode cX12_left 180 = .ok (.laload, 1) := by decide +kernel
theorem dX12_left_181 : decode cX12_left 181 = .ok (.lload 9, 2) := by decide +kernel
theorem dX12_left_183 : decode cX12_left 183 = .ok (.lmul, 1) := by decide +kernel
theorem dX12_left_184 : decode cX12_left 184 = .ok (.lstore 14, 2) := by decide +kernel
theorem dX12_left_186 : decode cX12_left 186 = .ok (.aload_n 0, 1) := by decide +kernel
theorem dX12_left_187 : decode cX12_left 187 = .ok (.getfield 34, 3) := by decide +kernel
theorem dX12_left_190 : decode cX12_left 190 = .ok (.iload 13, 2) := by decide +kernel
theorem dX12_left_192 : decode cX12_left 192 = .ok (.aload_n 0, 1) := by decide +kernel
theorem dX12_left_193 : decode cX12_left 193 = .ok (.getfield 34, 3) := by decide +kernel
theorem dX12_left_196 : decode cX12_left 196 = .ok (.iload 13, 2) := by decide +kernel
theorem dX12_left_198 : decode cX12_left 198 = .ok (.laload, 1) := by decide +kernel
theorem dX12_left_199 : decode cX12_left 199 = .ok (.lload 11, 2) := by decide +kernel
theorem dX12_left_201 : decode cX12_left 201 = .ok (.lload 9, 2) := by decide +kernel
theorem dX12_left_203 : decode cX12_left 203 = .ok (.lsub, 1) := by decide +kernel
theorem dX12_left_204 : decode cX12_left 204 = .ok (.lmul, 1) := by decide +kernel
theorem dX12_left_205 : decode cX12_left 205 = .ok (.lload 14, 2) := by decide +kernel
theorem dX12_left_207 : decode cX12_left 207 = .ok (.ladd, 1) := by decide +kernel
theorem dX12_left_208 : decode cX12_left 208 = .ok (.lastore, 1) := by decide +kernel
theorem dX12_left_209 : decode cX12_left 209 = .ok (.iinc 13 (-1), 3) := by decide +kernel
theorem dX12_left_212 : decode cX12_left 212 = .ok (.goto (-54), 3) := by decide +kernel
theorem dX12_left_215 : decode cX12_left 215 = .ok (.lload 4, 2) := by decide +kernel
theorem dX12_left_217 : decode cX12_left 217 = .ok (.lload 11, 2) := by decide +kernel
theorem dX12_left_219 : decode cX12_left 219 = .ok (.lmul, 1) := by decide +kernel
theorem dX12_left_220 : decode cX12_left 220 = .ok (.lstore 4, 2) := by decide +kernel
theorem dX12_left_222 : decode cX12_left 222 = .ok (.iinc 6 1, 3) := by decide +kernel
theorem dX12_left_225 : decode cX12_left 225 = .ok (.goto (-137), 3) := by decide +kernel
theorem dX12_left_228 : decode cX12_left 228 = .ok (.aload_n 0, 1) := by decide +kernel
theorem dX12_left_229 : decode cX12_left 229 = .ok (.getfield 34, 3) := by decide +kernel
theorem dX12_left_232 : decode cX12_left 232 = .ok (.iload_n 2, 1) := by decide +kernel
theorem dX12_left_233 : decode cX12_left 233 = .ok (.laload, 1) := by decide +kernel
theorem dX12_left_234 : decode cX12_left 234 = .ok (.lload 4, 2) := by decide +kernel
theorem dX12_left_236 : decode cX12_left 236 = .ok (.iload_n 3, 1) := by decide +kernel
theorem dX12_left_237 : decode cX12_left 237 = .ok (.invokestatic 218, 3) := by decide +kernel
theorem dX12_left_240 : decode cX12_left 240 = .ok (.lreturn, 1) := by decide +kernel
theorem dX12_register_0 : decode cX12_register 0 = .ok (.iload_n 1, 1) := by decide +kernel
theorem dX12_register_1 : decode cX12_register 1 = .ok (.iload_n 2, 1) := by decide +kernel
theorem dX12_register_2 : decode cX12_register 2 = .ok (.invokestatic 173, 3) := by decide +kernel
theorem dX12_register_5 : decode cX12_register 5 = .ok (.ifCond .ne 6, 3) := by decide +kernel
theorem dX12_register_8 : decode cX12_register 8 = .ok (.bipush (-101), 2) := by decide +kernel
theorem dX12_register_10 : decode cX12_register 10 = .ok (.ireturn, 1) := by decide +kernel
theorem dX12_register_11 : decode cX12_register 11 = .ok (.aload_n 0, 1) := by decide +kernel
theorem dX12_register_12 : decode cX12_register 12 = .ok (.getfield 97, 3) := by decide +kernel
theorem dX12_register_15 : decode cX12_register 15 = .ok (.bipush 8, 2) := by decide +kernel
theorem dX12_register_17 : decode cX12_register 17 = .ok (.if_icmp .ne 6, 3) := by decide +kernel
theorem dX12_register_20 : decode cX12_register 20 = .ok (.bipush (-104), 2) := by decide +kernel
theorem dX12_register_22 : decode cX12_register 22 = .ok (.ireturn, 1) := by decide +kernel
theorem dX12_register_23 : decode cX12_register 23 = .ok (.aload_n 0, 1) := by decide +kernel
theorem dX12_register_24 : decode cX12_register 24 = .ok (.getfield 38, 3) := by decide +kernel
theorem dX12_register_27 : decode cX12_register 27 = .ok (.iconst 2, 1) := by decide +kernel
theorem dX12_register_28 : decode cX12_register 28 = .ok (.aload_n 0, 1) := by decide +kernel
theorem dX12_register_29 : decode cX12_register 29 = .ok (.getfield 97, 3) := by decide +kernel
theorem dX12_register_32 : decode cX12_register 32 = .ok (.imul, 1) := by decide +kernel
theorem dX12_register_33 : decode cX12_register 33 = .ok (.iload_n 1, 1) := by decide +kernel
theorem dX12_register_34 : decode cX12_register 34 = .ok (.iastore, 1) := by decide +kernel
theorem dX12_register_35 : decode cX12_register 35 = .ok (.aload_n 0, 1) := by decide +kernel
theorem dX12_register_36 : decode cX12_register 36 = .ok (.getfield 38, 3) := by decide +kernel
theorem dX12_register_39 : decode cX12_register 39 = .ok (.iconst 2, 1) := by decide +kernel
theorem dX12_register_40 : decode cX12_register 40 = .ok (.aload_n 0, 1) := by decide +kernel
theorem dX12_register_41 : decode cX12_register 41 = .ok (.getfield 97, 3) := by decide +kernel
theorem dX12_register_44 : decode cX12_register 44 = .ok (.imul, 1) := by decide +kernel
theorem dX12_register_45 : decode cX12_register 45 = .ok (.iconst 1, 1) := by decide +kernel
theorem dX12_register_46 : decode cX12_register 46 = .ok (.iadd, 1) := by decide +kernel
theorem dX12_register_47 : decode cX12_register 47 = .ok (.iload_n 2, 1) := by decide +kernel
theorem dX12_register_48 : decode cX12_register 48 = .ok (.iastore, 1) := by decide +kernel
theorem dX12_register_49 : decode cX12_register 49 = .ok (.aload_n 0, 1) := by decide +kernel
theorem dX12_register_50 : decode cX12_register 50 = .ok (.dup, 1) := by decide +kernel
theorem dX12_register_51 : decode cX12_register 51 = .ok (.getfield 97, 3) := by decide +kernel
theorem dX12_register_54 : decode cX12_register 54 = .ok (.iconst 1, 1) := by decide +kernel
theorem dX12_register_55 : decode cX12_register 55 = .ok (.iadd, 1) := by decide +kernel
theorem dX12_register_56 : decode cX12_register 56 = .ok (.putfield 97, 3) := by decide +kernel
theorem dX12_register_59 : decode cX12_register 59 = .ok (.aload_n 0, 1) := by decide +kernel
theorem dX12_register_60 : decode cX12_register 60 = .ok (.getfield 97, 3) := by decide +kernel
theorem dX12_register_63 : decode cX12_register 63 = .ok (.ireturn, 1) := by decide +kernel
theorem dX12_forget_0 : decode cX12_forget 0 = .ok (.aload_n 0, 1) := by decide +kernel
theorem dX12_forget_1 : decode cX12_forget 1 = .ok (.getfield 97, 3) := by decide +kernel
theorem dX12_forget_4 : decode cX12_forget 4 = .ok (.istore_n 1, 1) := by decide +kernel
theorem dX12_forget_5 : decode cX12_forget 5 = .ok (.aload_n 0, 1) := by decide +kernel
theorem dX12_forget_6 : decode cX12_forget 6 = .ok (.iconst 0, 1) := by decide +kernel
theorem dX12_forget_7 : decode cX12_forget 7 = .ok (.putfield 97, 3) := by decide +kernel
theorem dX12_forget_10 : decode cX12_forget 10 = .ok (.iload_n 1, 1) := by decide +kernel
theorem dX12_forget_11 : decode cX12_forget 11 = .ok (.ireturn, 1) := by decide +kernel
theorem dX12_isLapsedBy_0 : decode cX12_isLapsedBy 0 = .ok (.iconst 1, 1) := by decide +kernel
theorem dX12_isLapsedBy_1 : decode cX12_isLapsedBy 1 = .ok (.istore_n 3, 1) := by decide +kernel
theorem dX12_isLapsedBy_2 : decode cX12_isLapsedBy 2 = .ok (.iconst 0, 1) := by decide +kernel
theorem dX12_isLapsedBy_3 : decode cX12_isLapsedBy 3 = .ok (.istore 4, 2) := by decide +kernel
theorem dX12_isLapsedBy_5 : decode cX12_isLapsedBy 5 = .ok (.iload 4, 2) := by decide +kernel
theorem dX12_isLapsedBy_7 : decode cX12_isLapsedBy 7 = .ok (.aload_n 0, 1) := by decide +kernel
theorem dX12_isLapsedBy_8 : decode cX12_isLapsedBy 8 = .ok (.getfield 97, 3) := by decide +kernel
theorem dX12_isLapsedBy_11 : decode cX12_isLapsedBy 11 = .ok (.if_icmp .ge 78, 3) := by decide +kernel
theorem dX12_isLapsedBy_14 : decode cX12_isLapsedBy 14 = .ok (.aload_n 0, 1) := by decide +kernel
theorem dX12_isLapsedBy_15 : decode cX12_isLapsedBy 15 = .ok (.getfield 38, 3) := by decide +kernel
theorem dX12_isLapsedBy_18 : decode cX12_isLapsedBy 18 = .ok (.iconst 2, 1) := by decide +kernel
theorem dX12_isLapsedBy_19 : decode cX12_isLapsedBy 19 = .ok (.iload 4, 2) := by decide +kernel
theorem dX12_isLapsedBy_21 : decode cX12_isLapsedBy 21 = .ok (.imul, 1) := by decide +kernel
theorem dX12_isLapsedBy_22 : decode cX12_isLapsedBy 22 = .ok (.iaload, 1) := by decide +kernel
theorem dX12_isLapsedBy_23 : decode cX12_isLapsedBy 23 = .ok (.istore 5, 2) := by decide +kernel
theorem dX12_isLapsedBy_25 : decode cX12_isLapsedBy 25 = .ok (.aload_n 0, 1) := by decide +kernel
theorem dX12_isLapsedBy_26 : decode cX12_isLapsedBy 26 = .ok (.getfield 38, 3) := by decide +kernel
theorem dX12_isLapsedBy_29 : decode cX12_isLapsedBy 29 = .ok (.iconst 2, 1) := by decide +kernel
theorem dX12_isLapsedBy_30 : decode cX12_isLapsedBy 30 = .ok (.iload 4, 2) := by decide +kernel
theorem dX12_isLapsedBy_32 : decode cX12_isLapsedBy 32 = .ok (.imul, 1) := by decide +kernel
theorem dX12_isLapsedBy_33 : decode cX12_isLapsedBy 33 = .ok (.iconst 1, 1) := by decide +kernel
theorem dX12_isLapsedBy_34 : decode cX12_isLapsedBy 34 = .ok (.iadd, 1) := by decide +kernel
theorem dX12_isLapsedBy_35 : decode cX12_isLapsedBy 35 = .ok (.iaload, 1) := by decide +kernel
theorem dX12_isLapsedBy_36 : decode cX12_isLapsedBy 36 = .ok (.istore 6, 2) := by decide +kernel
theorem dX12_isLapsedBy_38 : decode cX12_isLapsedBy 38 = .ok (.iload_n 3, 1) := by decide +kernel
theorem dX12_isLapsedBy_39 : decode cX12_isLapsedBy 39 = .ok (.ifCond .eq 42, 3) := by decide +kernel
theorem dX12_isLapsedBy_42 : decode cX12_isLapsedBy 42 = .ok (.iload 5, 2) := by decide +kernel
theorem dX12_isLapsedBy_44 : decode cX12_isLapsedBy 44 = .ok (.iload_n 1, 1) := by decide +kernel
theorem dX12_isLapsedBy_45 : decode cX12_isLapsedBy 45 = .ok (.if_icmp .ne 9, 3) := by decide +kernel
theorem dX12_isLapsedBy_48 : decode cX12_isLapsedBy 48 = .ok (.iload 6, 2) := by decide +kernel
theorem dX12_isLapsedBy_50 : decode cX12_isLapsedBy 50 = .ok (.iload_n 2, 1) := by decide +kernel
theorem dX12_isLapsedBy_51 : decode cX12_isLapsedBy 51 = .ok (.if_icmp .eq 26, 3) := by decide +kernel
theorem dX12_isLapsedBy_54 : decode cX12_isLapsedBy 54 = .ok (.iload 5, 2) := by decide +kernel
theorem dX12_isLapsedBy_56 : decode cX12_isLapsedBy 56 = .ok (.iload_n 2, 1) := by decide +kernel
theorem dX12_isLapsedBy_57 : decode cX12_isLapsedBy 57 = .ok (.if_icmp .ne 9, 3) := by decide +kernel
theorem dX12_isLapsedBy_60 : decode cX12_isLapsedBy 60 = .ok (.iload 6, 2) := by decide +kernel
theorem dX12_isLapsedBy_62 : decode cX12_isLapsedBy 62 = .ok (.iload_n 1, 1) := by decide +kernel
theorem dX12_isLapsedBy_63 : decode cX12_isLapsedBy 63 = .ok (.if_icmp .eq 14, 3) := by decide +kernel
theorem dX12_isLapsedBy_66 : decode cX12_isLapsedBy 66 = .ok (.aload_n 0, 1) := by decide +kernel
theorem dX12_isLapsedBy_67 : decode cX12_isLapsedBy 67 = .ok (.iload 5, 2) := by decide +kernel
theorem dX12_isLapsedBy_69 : decode cX12_isLapsedBy 69 = .ok (.iload 6, 2) := by decide +kernel
theorem dX12_isLapsedBy_71 : decode cX12_isLapsedBy 71 = .ok (.invokevirtual 198, 3) := by decide +kernel
theorem dX12_isLapsedBy_74 : decode cX12_isLapsedBy 74 = .ok (.ifCond .le 7, 3) := by decide +kernel
theorem dX12_isLapsedBy_77 : decode cX12_isLapsedBy 77 = .ok (.iconst 1, 1) := by decide +kernel
theorem dX12_isLapsedBy_78 : decode cX12_isLapsedBy 78 = .ok (.goto 4, 3) := by decide +kernel
theorem dX12_isLapsedBy_81 : decode cX12_isLapsedBy 81 = .ok (.iconst 0, 1) := by decide +kernel
theorem dX12_isLapsedBy_82 : decode cX12_isLapsedBy 82 = .ok (.istore_n 3, 1) := by decide +kernel
theorem dX12_isLapsedBy_83 : decode cX12_isLapsedBy 83 = .ok (.iinc 4 1, 3) := by decide +kernel
theorem dX12_isLapsedBy_86 : decode cX12_isLapsedBy 86 = .ok (.goto (-81), 3) := by decide +kernel
theorem dX12_isLapsedBy_89 : decode cX12_isLapsedBy 89 = .ok (.iload_n 3, 1) := by decide +kernel
theorem dX12_isLapsedBy_90 : decode cX12_isLapsedBy 90 = .ok (.ireturn, 1) := by decide +kernel
theorem dX12_lapsedOf_0 : decode cX12_lapsedOf 0 = .ok (.iconst 0, 1) := by decide +kernel
theorem dX12_lapsedOf_1 : decode cX12_lapsedOf 1 = .ok (.istore_n 2, 1) := by decide +kernel
theorem dX12_lapsedOf_2 : decode cX12_lapsedOf 2 = .ok (.iconst (-1), 1) := by decide +kernel
theorem dX12_lapsedOf_3 : decode cX12_lapsedOf 3 = .ok (.istore_n 3, 1) := by decide +kernel
theorem dX12_lapsedOf_4 : decode cX12_lapsedOf 4 = .ok (.iconst 0, 1) := by decide +kernel
theorem dX12_lapsedOf_5 : decode cX12_lapsedOf 5 = .ok (.istore 4, 2) := by decide +kernel
theorem dX12_lapsedOf_7 : decode cX12_lapsedOf 7 = .ok (.iload 4, 2) := by decide +kernel
theorem dX12_lapsedOf_9 : decode cX12_lapsedOf 9 = .ok (.bipush 36, 2) := by decide +kernel
theorem dX12_lapsedOf_11 : decode cX12_lapsedOf 11 = .ok (.if_icmp .ge 71, 3) := by decide +kernel
theorem dX12_lapsedOf_14 : decode cX12_lapsedOf 14 = .ok (.iload 4, 2) := by decide +kernel
theorem dX12_lapsedOf_16 : decode cX12_lapsedOf 16 = .ok (.bipush 6, 2) := by decide +kernel
theorem dX12_lapsedOf_18 : decode cX12_lapsedOf 18 = .ok (.idiv, 1) := by decide +kernel
theorem dX12_lapsedOf_19 : decode cX12_lapsedOf 19 = .ok (.iload 4, 2) := by decide +kernel
theorem dX12_lapsedOf_21 : decode cX12_lapsedOf 21 = .ok (.bipush 6, 2) := by decide +kernel
theorem dX12_lapsedOf_23 : decode cX12_lapsedOf 23 = .ok (.irem, 1) := by decide +kernel
theorem dX12_lapsedOf_24 : decode cX12_lapsedOf 24 = .ok (.if_icmp .ge 24, 3) := by decide +kernel
theorem dX12_lapsedOf_27 : decode cX12_lapsedOf 27 = .ok (.aload_n 0, 1) := by decide +kernel
theorem dX12_lapsedOf_28 : decode cX12_lapsedOf 28 = .ok (.iload 4, 2) := by decide +kernel
theorem dX12_lapsedOf_30 : decode cX12_lapsedOf 30 = .ok (.bipush 6, 2) := by decide +kernel
theorem dX12_lapsedOf_32 : decode cX12_lapsedOf 32 = .ok (.idiv, 1) := by decide +kernel
theorem dX12_lapsedOf_33 : decode cX12_lapsedOf 33 = .ok (.iload 4, 2) := by decide +kernel
theorem dX12_lapsedOf_35 : decode cX12_lapsedOf 35 = .ok (.bipush 6, 2) := by decide +kernel
theorem dX12_lapsedOf_37 : decode cX12_lapsedOf 37 = .ok (.irem, 1) := by decide +kernel
theorem dX12_lapsedOf_38 : decode cX12_lapsedOf 38 = .ok (.invokevirtual 222, 3) := by decide +kernel
theorem dX12_lapsedOf_41 : decode cX12_lapsedOf 41 = .ok (.ifCond .eq 7, 3) := by decide +kernel
theorem dX12_lapsedOf_44 : decode cX12_lapsedOf 44 = .ok (.iconst 1, 1) := by decide +kernel
theorem dX12_lapsedOf_45 : decode cX12_lapsedOf 45 = .ok (.goto 4, 3) := by decide +kernel
theorem dX12_lapsedOf_48 : decode cX12_lapsedOf 48 = .ok (.iconst 0, 1) := by decide +kernel
theorem dX12_lapsedOf_49 : decode cX12_lapsedOf 49 = .ok (.istore 5, 2) := by decide +kernel
theorem dX12_lapsedOf_51 : decode cX12_lapsedOf 51 = .ok (.iload_n 2, 1) := by decide +kernel
theorem dX12_lapsedOf_52 : decode cX12_lapsedOf 52 = .ok (.iload 5, 2) := by decide +kernel
theorem dX12_lapsedOf_54 : decode cX12_lapsedOf 54 = .ok (.ifCond .eq 7, 3) := by decide +kernel
theorem dX12_lapsedOf_57 : decode cX12_lapsedOf 57 = .ok (.iconst 1, 1) := by decide +kernel
theorem dX12_lapsedOf_58 : decode cX12_lapsedOf 58 = .ok (.goto 4, 3) := by decide +kernel
theorem dX12_lapsedOf_61 : decode cX12_lapsedOf 61 = .ok (.iconst 0, 1) := by decide +kernel
theorem dX12_lapsedOf_62 : decode cX12_lapsedOf 62 = .ok (.iadd, 1) := by decide +kernel
theorem dX12_lapsedOf_63 : decode cX12_lapsedOf 63 = .ok (.istore_n 2, 1) := by decide +kernel
theorem dX12_lapsedOf_64 : decode cX12_lapsedOf 64 = .ok (.iload 5, 2) := by decide +kernel
theorem dX12_lapsedOf_66 : decode cX12_lapsedOf 66 = .ok (.ifCond .eq 8, 3) := by decide +kernel
theorem dX12_lapsedOf_69 : decode cX12_lapsedOf 69 = .ok (.iload 4, 2) := by decide +kernel
theorem dX12_lapsedOf_71 : decode cX12_lapsedOf 71 = .ok (.goto 4, 3) := by decide +kernel
theorem dX12_lapsedOf_74 : decode cX12_lapsedOf 74 = .ok (.iload_n 3, 1) := by decide +kernel
theorem dX12_lapsedOf_75 : decode cX12_lapsedOf 75 = .ok (.istore_n 3, 1) := by decide +kernel
theorem dX12_lapsedOf_76 : decode cX12_lapsedOf 76 = .ok (.iinc 4 1, 3) := by decide +kernel
theorem dX12_lapsedOf_79 : decode cX12_lapsedOf 79 = .ok (.goto (-72), 3) := by decide +kernel
theorem dX12_lapsedOf_82 : decode cX12_lapsedOf 82 = .ok (.iload_n 1, 1) := by decide +kernel
theorem dX12_lapsedOf_83 : decode cX12_lapsedOf 83 = .ok (.ifCond .ne 7, 3) := by decide +kernel
theorem dX12_lapsedOf_86 : decode cX12_lapsedOf 86 = .ok (.iload_n 2, 1) := by decide +kernel
theorem dX12_lapsedOf_87 : decode cX12_lapsedOf 87 = .ok (.goto 13, 3) := by decide +kernel
theorem dX12_lapsedOf_90 : decode cX12_lapsedOf 90 = .ok (.iload_n 2, 1) := by decide +kernel
theorem dX12_lapsedOf_91 : decode cX12_lapsedOf 91 = .ok (.iconst 1, 1) := by decide +kernel
theorem dX12_lapsedOf_92 : decode cX12_lapsedOf 92 = .ok (.if_icmp .ne 7, 3) := by decide +kernel
theorem dX12_lapsedOf_95 : decode cX12_lapsedOf 95 = .ok (.iload_n 3, 1) := by decide +kernel
theorem dX12_lapsedOf_96 : decode cX12_lapsedOf 96 = .ok (.goto 4, 3) := by decide +kernel
theorem dX12_lapsedOf_99 : decode cX12_lapsedOf 99 = .ok (.iconst (-1), 1) := by decide +kernel
theorem dX12_lapsedOf_100 : decode cX12_lapsedOf 100 = .ok (.ireturn, 1) := by decide +kernel
theorem dX12_lapsed_0 : decode cX12_lapsed 0 = .ok (.iload_n 1, 1) := by decide +kernel
theorem dX12_lapsed_1 : decode cX12_lapsed 1 = .ok (.i2l, 1) := by decide +kernel
theorem dX12_lapsed_2 : decode cX12_lapsed 2 = .ok (.lconst 0, 1) := by decide +kernel
theorem dX12_lapsed_3 : decode cX12_lapsed 3 = .ok (.lconst 1, 1) := by decide +kernel
theorem dX12_lapsed_4 : decode cX12_lapsed 4 = .ok (.invokestatic 62, 3) := by decide +kernel
theorem dX12_lapsed_7 : decode cX12_lapsed 7 = .ok (.ifCond .ne 6, 3) := by decide +kernel
theorem dX12_lapsed_10 : decode cX12_lapsed 10 = .ok (.bipush (-102), 2) := by decide +kernel
theorem dX12_lapsed_12 : decode cX12_lapsed 12 = .ok (.ireturn, 1) := by decide +kernel
theorem dX12_lapsed_13 : decode cX12_lapsed 13 = .ok (.aload_n 0, 1) := by decide +kernel
theorem dX12_lapsed_14 : decode cX12_lapsed 14 = .ok (.invokevirtual 139, 3) := by decide +kernel
theorem dX12_lapsed_17 : decode cX12_lapsed 17 = .ok (.ifCond .eq 8, 3) := by decide +kernel
theorem dX12_lapsed_20 : decode cX12_lapsed 20 = .ok (.bipush (-103), 2) := by decide +kernel
theorem dX12_lapsed_22 : decode cX12_lapsed 22 = .ok (.goto 8, 3) := by decide +kernel
theorem dX12_lapsed_25 : decode cX12_lapsed 25 = .ok (.aload_n 0, 1) := by decide +kernel
theorem dX12_lapsed_26 : decode cX12_lapsed 26 = .ok (.iload_n 1, 1) := by decide +kernel
theorem dX12_lapsed_27 : decode cX12_lapsed 27 = .ok (.invokevirtual 225, 3) := by decide +kernel
theorem dX12_lapsed_30 : decode cX12_lapsed 30 = .ok (.ireturn, 1) := by decide +kernel
theorem dX12_draw_0 : decode cX12_draw 0 = .ok (.aload_n 0, 1) := by decide +kernel
theorem dX12_draw_1 : decode cX12_draw 1 = .ok (.ldc2_w 228, 3) := by decide +kernel
theorem dX12_draw_4 : decode cX12_draw 4 = .ok (.aload_n 0, 1) := by decide +kernel
theorem dX12_draw_5 : decode cX12_draw 5 = .ok (.getfield 230, 3) := by decide +kernel
theorem dX12_draw_8 : decode cX12_draw 8 = .ok (.i2l, 1) := by decide +kernel
theorem dX12_draw_9 : decode cX12_draw 9 = .ok (.lmul, 1) := by decide +kernel
theorem dX12_draw_10 : decode cX12_draw 10 = .ok (.ldc2_w 233, 3) := by decide +kernel
theorem dX12_draw_13 : decode cX12_draw 13 = .ok (.ladd, 1) := by decide +kernel
theorem dX12_draw_14 : decode cX12_draw 14 = .ok (.ldc2_w 235, 3) := by decide +kernel
theorem dX12_draw_17 : decode cX12_draw 17 = .ok (.land, 1) := by decide +kernel
theorem dX12_draw_18 : decode cX12_draw 18 = .ok (.l2i, 1) := by decide +kernel
theorem dX12_draw_19 : decode cX12_draw 19 = .ok (.putfield 230, 3) := by decide +kernel
theorem dX12_draw_22 : decode cX12_draw 22 = .ok (.aload_n 0, 1) := by decide +kernel
theorem dX12_draw_23 : decode cX12_draw 23 = .ok (.getfield 230, 3) := by decide +kernel
theorem dX12_draw_26 : decode cX12_draw 26 = .ok (.ldc 237, 2) := by decide +kernel
theorem dX12_draw_28 : decode cX12_draw 28 = .ok (.idiv, 1) := by decide +kernel
theorem dX12_draw_29 : decode cX12_draw 29 = .ok (.iload_n 1, 1) := by decide +kernel
theorem dX12_draw_30 : decode cX12_draw 30 = .ok (.irem, 1) := by decide +kernel
theorem dX12_draw_31 : decode cX12_draw 31 = .ok (.ireturn, 1) := by decide +kernel
theorem dX12_aliveMany_0 : decode cX12_aliveMany 0 = .ok (.iconst 0, 1) := by decide +kernel
theorem dX12_aliveMany_1 : decode cX12_aliveMany 1 = .ok (.istore_n 1, 1) := by decide +kernel
theorem dX12_aliveMany_2 : decode cX12_aliveMany 2 = .ok (.iconst 0, 1) := by decide +kernel
theorem dX12_aliveMany_3 : decode cX12_aliveMany 3 = .ok (.istore_n 2, 1) := by decide +kernel
theorem dX12_aliveMany_4 : decode cX12_aliveMany 4 = .ok (.iload_n 2, 1) := by decide +kernel
theorem dX12_aliveMany_5 : decode cX12_aliveMany 5 = .ok (.bipush 6, 2) := by decide +kernel
theorem dX12_aliveMany_7 : decode cX12_aliveMany 7 = .ok (.if_icmp .ge 22, 3) := by decide +kernel
theorem dX12_aliveMany_10 : decode cX12_aliveMany 10 = .ok (.iload_n 1, 1) := by decide +kernel
theorem dX12_aliveMany_11 : decode cX12_aliveMany 11 = .ok (.aload_n 0, 1) := by decide +kernel
theorem dX12_aliveMany_12 : decode cX12_aliveMany 12 = .ok (.getfield 19, 3) := by decide +kernel
theorem dX12_aliveMany_15 : decode cX12_aliveMany 15 = .ok (.iconst 3, 1) := by decide +kernel
theorem dX12_aliveMany_16 : decode cX12_aliveMany 16 = .ok (.iload_n 2, 1) := by decide +kernel
theorem dX12_aliveMany_17 : decode cX12_aliveMany 17 = .ok (.imul, 1) := by decide +kernel
theorem dX12_aliveMany_18 : decode cX12_aliveMany 18 = .ok (.iconst 2, 1) := by decide +kernel
theorem dX12_aliveMany_19 : decode cX12_aliveMany 19 = .ok (.iadd, 1) := by decide +kernel
theorem dX12_aliveMany_20 : decode cX12_aliveMany 20 = .ok (.iaload, 1) := by decide +kernel
theorem dX12_aliveMany_21 : decode cX12_aliveMany 21 = .ok (.iadd, 1) := by decide +kernel
theorem dX12_aliveMany_22 : decode cX12_aliveMany 22 = .ok (.istore_n 1, 1) := by decide +kernel
theorem dX12_aliveMany_23 : decode cX12_aliveMany 23 = .ok (.iinc 2 1, 3) := by decide +kernel
theorem dX12_aliveMany_26 : decode cX12_aliveMany 26 = .ok (.goto (-22), 3) := by decide +kernel
theorem dX12_aliveMany_29 : decode cX12_aliveMany 29 = .ok (.iload_n 1, 1) := by decide +kernel
theorem dX12_aliveMany_30 : decode cX12_aliveMany 30 = .ok (.ireturn, 1) := by decide +kernel
theorem dX12_openMany_0 : decode cX12_openMany 0 = .ok (.iconst 0, 1) := by decide +kernel
theorem dX12_openMany_1 : decode cX12_openMany 1 = .ok (.istore_n 1, 1) := by decide +kernel
theorem dX12_openMany_2 : decode cX12_openMany 2 = .ok (.iconst 0, 1) := by decide +kernel
theorem dX12_openMany_3 : decode cX12_openMany 3 = .ok (.istore_n 2, 1) := by decide +kernel
theorem dX12_openMany_4 : decode cX12_openMany 4 = .ok (.iload_n 2, 1) := by decide +kernel
theorem dX12_openMany_5 : decode cX12_openMany 5 = .ok (.iconst 2, 1) := by decide +kernel
theorem dX12_openMany_6 : decode cX12_openMany 6 = .ok (.aload_n 0, 1) := by decide +kernel
theorem dX12_openMany_7 : decode cX12_openMany 7 = .ok (.getfield 91, 3) := by decide +kernel
theorem dX12_openMany_10 : decode cX12_openMany 10 = .ok (.imul, 1) := by decide +kernel
theorem dX12_openMany_11 : decode cX12_openMany 11 = .ok (.if_icmp .ge 41, 3) := by decide +kernel
theorem dX12_openMany_14 : decode cX12_openMany 14 = .ok (.iload_n 1, 1) := by decide +kernel
theorem dX12_openMany_15 : decode cX12_openMany 15 = .ok (.aload_n 0, 1) := by decide +kernel
theorem dX12_openMany_16 : decode cX12_openMany 16 = .ok (.iload_n 2, 1) := by decide +kernel
theorem dX12_openMany_17 : decode cX12_openMany 17 = .ok (.iconst 2, 1) := by decide +kernel
theorem dX12_openMany_18 : decode cX12_openMany 18 = .ok (.idiv, 1) := by decide +kernel
theorem dX12_openMany_19 : decode cX12_openMany 19 = .ok (.invokevirtual 113, 3) := by decide +kernel
theorem dX12_openMany_22 : decode cX12_openMany 22 = .ok (.ifCond .ne 21, 3) := by decide +kernel
theorem dX12_openMany_25 : decode cX12_openMany 25 = .ok (.aload_n 0, 1) := by decide +kernel
theorem dX12_openMany_26 : decode cX12_openMany 26 = .ok (.iload_n 2, 1) := by decide +kernel
theorem dX12_openMany_27 : decode cX12_openMany 27 = .ok (.iconst 2, 1) := by decide +kernel
theorem dX12_openMany_28 : decode cX12_openMany 28 = .ok (.idiv, 1) := by decide +kernel
theorem dX12_openMany_29 : decode cX12_openMany 29 = .ok (.iload_n 2, 1) := by decide +kernel
theorem dX12_openMany_30 : decode cX12_openMany 30 = .ok (.iconst 2, 1) := by decide +kernel
theorem dX12_openMany_31 : decode cX12_openMany 31 = .ok (.irem, 1) := by decide +kernel
theorem dX12_openMany_32 : decode cX12_openMany 32 = .ok (.invokevirtual 110, 3) := by decide +kernel
theorem dX12_openMany_35 : decode cX12_openMany 35 = .ok (.iconst (-1), 1) := by decide +kernel
theorem dX12_openMany_36 : decode cX12_openMany 36 = .ok (.if_icmp .ne 7, 3) := by decide +kernel
theorem dX12_openMany_39 : decode cX12_openMany 39 = .ok (.iconst 1, 1) := by decide +kernel
theorem dX12_openMany_40 : decode cX12_openMany 40 = .ok (.goto 4, 3) := by decide +kernel
theorem dX12_openMany_43 : decode cX12_openMany 43 = .ok (.iconst 0, 1) := by decide +kernel
theorem dX12_openMany_44 : decode cX12_openMany 44 = .ok (.iadd, 1) := by decide +kernel
theorem dX12_openMany_45 : decode cX12_openMany 45 = .ok (.istore_n 1, 1) := by decide +kernel
theorem dX12_openMany_46 : decode cX12_openMany 46 = .ok (.iinc 2 1, 3) := by decide +kernel
theorem dX12_openMany_49 : decode cX12_openMany 49 = .ok (.goto (-45), 3) := by decide +kernel
theorem dX12_openMany_52 : decode cX12_openMany 52 = .ok (.iload_n 1, 1) := by decide +kernel
theorem dX12_openMany_53 : decode cX12_openMany 53 = .ok (.ireturn, 1) := by decide +kernel
theorem dX12_years_0 : decode cX12_years 0 = .ok (.iload_n 1, 1) := by decide +kernel
theorem dX12_years_1 : decode cX12_years 1 = .ok (.i2l, 1) := by decide +kernel
theorem dX12_years_2 : decode cX12_years 2 = .ok (.lconst 1, 1) := by decide +kernel
theorem dX12_years_3 : decode cX12_years 3 = .ok (.ldc2_w 238, 3) := by decide +kernel
theorem dX12_years_6 : decode cX12_years 6 = .ok (.invokestatic 62, 3) := by decide +kernel
theorem dX12_years_9 : decode cX12_years 9 = .ok (.ifCond .eq 19, 3) := by decide +kernel
theorem dX12_years_12 : decode cX12_years 12 = .ok (.iload_n 2, 1) := by decide +kernel
theorem dX12_years_13 : decode cX12_years 13 = .ok (.ifCond .lt 15, 3) := by decide +kernel
theorem dX12_years_16 : decode cX12_years 16 = .ok (.iload_n 3, 1) := by decide +kernel
theorem dX12_years_17 : decode cX12_years 17 = .ok (.i2l, 1) := by decide +kernel
theorem dX12_years_18 : decode cX12_years 18 = .ok (.lconst 0, 1) := by decide +kernel
theorem dX12_years_19 : decode cX12_years 19 = .ok (.ldc2_w 240, 3) := by decide +kernel
theorem dX12_years_22 : decode cX12_years 22 = .ok (.invokestatic 62, 3) := by decide +kernel
theorem dX12_years_25 : decode cX12_years 25 = .ok (.ifCond .ne 6, 3) := by decide +kernel
theorem dX12_years_28 : decode cX12_years 28 = .ok (.bipush (-102), 2) := by decide +kernel
theorem dX12_years_30 : decode cX12_years 30 = .ok (.ireturn, 1) := by decide +kernel
theorem dX12_years_31 : decode cX12_years 31 = .ok (.aload_n 0, 1) := by decide +kernel
theorem dX12_years_32 : decode cX12_years 32 = .ok (.invokevirtual 139, 3) := by decide +kernel
theorem dX12_years_35 : decode cX12_years 35 = .ok (.ifCond .eq 6, 3) := by decide +kernel
theorem dX12_years_38 : decode cX12_years 38 = .ok (.bipush (-103), 2) := by decide +kernel
theorem dX12_years_40 : decode cX12_years 40 = .ok (.ireturn, 1) := by decide +kernel
theorem dX12_years_41 : decode cX12_years 41 = .ok (.aload_n 0, 1) := by decide +kernel
theorem dX12_years_42 : decode cX12_years 42 = .ok (.invokevirtual 192, 3) := by decide +kernel
theorem dX12_years_45 : decode cX12_years 45 = .ok (.aload_n 0, 1) := by decide +kernel
theorem dX12_years_46 : decode cX12_years 46 = .ok (.iload_n 2, 1) := by decide +kernel
theorem dX12_years_47 : decode cX12_years 47 = .ok (.putfield 230, 3) := by decide +kernel
theorem dX12_years_50 : decode cX12_years 50 = .ok (.iconst 0, 1) := by decide +kernel
theorem dX12_years_51 : decode cX12_years 51 = .ok (.istore 4, 2) := by decide +kernel
theorem dX12_years_53 : decode cX12_years 53 = .ok (.iload 4, 2) := by decide +kernel
theorem dX12_years_55 : decode cX12_years 55 = .ok (.iload_n 1, 1) := by decide +kernel
theorem dX12_years_56 : decode cX12_years 56 = .ok (.if_icmp .ge 98, 3) := by decide +kernel
theorem dX12_years_59 : decode cX12_years 59 = .ok (.aload_n 0, 1) := by decide +kernel
theorem dX12_years_60 : decode cX12_years 60 = .ok (.bipush 6, 2) := by decide +kernel
theorem dX12_years_62 : decode cX12_years 62 = .ok (.invokevirtual 242, 3) := by decide +kernel
theorem dX12_years_65 : decode cX12_years 65 = .ok (.istore 5, 2) := by decide +kernel
theorem dX12_years_67 : decode cX12_years 67 = .ok (.aload_n 0, 1) := by decide +kernel
theorem dX12_years_68 : decode cX12_years 68 = .ok (.aload_n 0, 1) := by decide +kernel
theorem dX12_years_69 : decode cX12_years 69 = .ok (.getfield 91, 3) := by decide +kernel
theorem dX12_years_72 : decode cX12_years 72 = .ok (.invokevirtual 242, 3) := by decide +kernel
theorem dX12_years_75 : decode cX12_years 75 = .ok (.istore 6, 2) := by decide +kernel
theorem dX12_years_77 : decode cX12_years 77 = .ok (.aload_n 0, 1) := by decide +kernel
theorem dX12_years_78 : decode cX12_years 78 = .ok (.iconst 2, 1) := by decide +kernel
theorem dX12_years_79 : decode cX12_years 79 = .ok (.invokevirtual 242, 3) := by decide +kernel
theorem dX12_years_82 : decode cX12_years 82 = .ok (.istore 7, 2) := by decide +kernel
theorem dX12_years_84 : decode cX12_years 84 = .ok (.aload_n 0, 1) := by decide +kernel
theorem dX12_years_85 : decode cX12_years 85 = .ok (.iload 5, 2) := by decide +kernel
theorem dX12_years_87 : decode cX12_years 87 = .ok (.iload 6, 2) := by decide +kernel
theorem dX12_years_89 : decode cX12_years 89 = .ok (.iload 7, 2) := by decide +kernel
theorem dX12_years_91 : decode cX12_years 91 = .ok (.invokevirtual 153, 3) := by decide +kernel
theorem dX12_years_94 : decode cX12_years 94 = .ok (.ifCond .eq 15, 3) := by decide +kernel
theorem dX12_years_97 : decode cX12_years 97 = .ok (.aload_n 0, 1) := by decide +kernel
theorem dX12_years_98 : decode cX12_years 98 = .ok (.iload 5, 2) := by decide +kernel
theorem dX12_years_100 : decode cX12_years 100 = .ok (.iload 6, 2) := by decide +kernel
theorem dX12_years_102 : decode cX12_years 102 = .ok (.iload 7, 2) := by decide +kernel
theorem dX12_years_104 : decode cX12_years 104 = .ok (.invokevirtual 157, 3) := by decide +kernel
theorem dX12_years_107 : decode cX12_years 107 = .ok (.istore 8, 2) := by decide +kernel
theorem dX12_years_109 : decode cX12_years 109 = .ok (.aload_n 0, 1) := by decide +kernel
theorem dX12_years_110 : decode cX12_years 110 = .ok (.bipush 6, 2) := by decide +kernel
theorem dX12_years_112 : decode cX12_years 112 = .ok (.invokevirtual 242, 3) := by decide +kernel
theorem dX12_years_115 : decode cX12_years 115 = .ok (.istore 8, 2) := by decide +kernel
theorem dX12_years_117 : decode cX12_years 117 = .ok (.aload_n 0, 1) := by decide +kernel
theorem dX12_years_118 : decode cX12_years 118 = .ok (.iload 8, 2) := by decide +kernel
theorem dX12_years_120 : decode cX12_years 120 = .ok (.invokevirtual 143, 3) := by decide +kernel
theorem dX12_years_123 : decode cX12_years 123 = .ok (.ifCond .eq 19, 3) := by decide +kernel
theorem dX12_years_126 : decode cX12_years 126 = .ok (.aload_n 0, 1) := by decide +kernel
theorem dX12_years_127 : decode cX12_years 127 = .ok (.iconst 4, 1) := by decide +kernel
theorem dX12_years_128 : decode cX12_years 128 = .ok (.invokevirtual 242, 3) := by decide +kernel
theorem dX12_years_131 : decode cX12_years 131 = .ok (.ifCond .ne 11, 3) := by decide +kernel
theorem dX12_years_134 : decode cX12_years 134 = .ok (.aload_n 0, 1) := by decide +kernel
theorem dX12_years_135 : decode cX12_years 135 = .ok (.iload 8, 2) := by decide +kernel
theorem dX12_years_137 : decode cX12_years 137 = .ok (.invokevirtual 167, 3) := by decide +kernel
theorem dX12_years_140 : decode cX12_years 140 = .ok (.istore 9, 2) := by decide +kernel
theorem dX12_years_142 : decode cX12_years 142 = .ok (.aload_n 0, 1) := by decide +kernel
theorem dX12_years_143 : decode cX12_years 143 = .ok (.invokevirtual 179, 3) := by decide +kernel
theorem dX12_years_146 : decode cX12_years 146 = .ok (.istore 9, 2) := by decide +kernel
theorem dX12_years_148 : decode cX12_years 148 = .ok (.iinc 4 1, 3) := by decide +kernel
theorem dX12_years_151 : decode cX12_years 151 = .ok (.goto (-98), 3) := by decide +kernel
theorem dX12_years_154 : decode cX12_years 154 = .ok (.iconst 0, 1) := by decide +kernel
theorem dX12_years_155 : decode cX12_years 155 = .ok (.istore 4, 2) := by decide +kernel
theorem dX12_years_157 : decode cX12_years 157 = .ok (.iconst 0, 1) := by decide +kernel
theorem dX12_years_158 : decode cX12_years 158 = .ok (.istore 5, 2) := by decide +kernel
theorem dX12_years_160 : decode cX12_years 160 = .ok (.iload 5, 2) := by decide +kernel
theorem dX12_years_162 : decode cX12_years 162 = .ok (.bipush 6, 2) := by decide +kernel
theorem dX12_years_164 : decode cX12_years 164 = .ok (.if_icmp .ge 23, 3) := by decide +kernel
theorem dX12_years_167 : decode cX12_years 167 = .ok (.iload 4, 2) := by decide +kernel
theorem dX12_years_169 : decode cX12_years 169 = .ok (.aload_n 0, 1) := by decide +kernel
theorem dX12_years_170 : decode cX12_years 170 = .ok (.getfield 19, 3) := by decide +kernel
theorem dX12_years_173 : decode cX12_years 173 = .ok (.iconst 3, 1) := by decide +kernel
theorem dX12_years_174 : decode cX12_years 174 = .ok (.iload 5, 2) := by decide +kernel
theorem dX12_years_176 : decode cX12_years 176 = .ok (.imul, 1) := by decide +kernel
theorem dX12_years_177 : decode cX12_years 177 = .ok (.iaload, 1) := by decide +kernel
theorem dX12_years_178 : decode cX12_years 178 = .ok (.iadd, 1) := by decide +kernel
theorem dX12_years_179 : decode cX12_years 179 = .ok (.istore 4, 2) := by decide +kernel
theorem dX12_years_181 : decode cX12_years 181 = .ok (.iinc 5 1, 3) := by decide +kernel
theorem dX12_years_184 : decode cX12_years 184 = .ok (.goto (-24), 3) := by decide +kernel
theorem dX12_years_187 : decode cX12_years 187 = .ok (.iload_n 3, 1) := by decide +kernel
theorem dX12_years_188 : decode cX12_years 188 = .ok (.ifCond .ne 10, 3) := by decide +kernel
theorem dX12_years_191 : decode cX12_years 191 = .ok (.aload_n 0, 1) := by decide +kernel
theorem dX12_years_192 : decode cX12_years 192 = .ok (.invokevirtual 245, 3) := by decide +kernel
theorem dX12_years_195 : decode cX12_years 195 = .ok (.goto 29, 3) := by decide +kernel
theorem dX12_years_198 : decode cX12_years 198 = .ok (.iload_n 3, 1) := by decide +kernel
theorem dX12_years_199 : decode cX12_years 199 = .ok (.iconst 1, 1) := by decide +kernel
theorem dX12_years_200 : decode cX12_years 200 = .ok (.if_icmp .ne 8, 3) := by decide +kernel
theorem dX12_years_203 : decode cX12_years 203 = .ok (.iload 4, 2) := by decide +kernel
theorem dX12_years_205 : decode cX12_years 205 = .ok (.goto 19, 3) := by decide +kernel
theorem dX12_years_208 : decode cX12_years 208 = .ok (.iload_n 3, 1) := by decide +kernel
theorem dX12_years_209 : decode cX12_years 209 = .ok (.iconst 2, 1) := by decide +kernel
theorem dX12_years_210 : decode cX12_years 210 = .ok (.if_icmp .ne 10, 3) := by decide +kernel
theorem dX12_years_213 : decode cX12_years 213 = .ok (.aload_n 0, 1) := by decide +kernel
theorem dX12_years_214 : decode cX12_years 214 = .ok (.invokevirtual 248, 3) := by decide +kernel
theorem dX12_years_217 : decode cX12_years 217 = .ok (.goto 7, 3) := by decide +kernel
theorem dX12_years_220 : decode cX12_years 220 = .ok (.aload_n 0, 1) := by decide +kernel
theorem dX12_years_221 : decode cX12_years 221 = .ok (.getfield 230, 3) := by decide +kernel
theorem dX12_years_224 : decode cX12_years 224 = .ok (.istore 5, 2) := by decide +kernel
theorem dX12_years_226 : decode cX12_years 226 = .ok (.aload_n 0, 1) := by decide +kernel
theorem dX12_years_227 : decode cX12_years 227 = .ok (.invokevirtual 189, 3) := by decide +kernel
theorem dX12_years_230 : decode cX12_years 230 = .ok (.iload 5, 2) := by decide +kernel
theorem dX12_years_232 : decode cX12_years 232 = .ok (.ireturn, 1) := by decide +kernel
theorem dX12_image_0 : decode cX12_image 0 = .ok (.aload_n 0, 1) := by decide +kernel
theorem dX12_image_1 : decode cX12_image 1 = .ok (.invokevirtual 139, 3) := by decide +kernel
theorem dX12_image_4 : decode cX12_image 4 = .ok (.ifCond .eq 6, 3) := by decide +kernel
theorem dX12_image_7 : decode cX12_image 7 = .ok (.bipush (-103), 2) := by decide +kernel
theorem dX12_image_9 : decode cX12_image 9 = .ok (.ireturn, 1) := by decide +kernel
theorem dX12_image_10 : decode cX12_image 10 = .ok (.aload_n 0, 1) := by decide +kernel
theorem dX12_image_11 : decode cX12_image 11 = .ok (.getfield 16, 3) := by decide +kernel
theorem dX12_image_14 : decode cX12_image 14 = .ok (.aload_n 0, 1) := by decide +kernel
theorem dX12_image_15 : decode cX12_image 15 = .ok (.getfield 41, 3) := by decide +kernel
theorem dX12_image_18 : decode cX12_image 18 = .ok (.invokestatic 182, 3) := by decide +kernel
theorem dX12_image_21 : decode cX12_image 21 = .ok (.aload_n 0, 1) := by decide +kernel
theorem dX12_image_22 : decode cX12_image 22 = .ok (.getfield 19, 3) := by decide +kernel
theorem dX12_image_25 : decode cX12_image 25 = .ok (.aload_n 0, 1) := by decide +kernel
theorem dX12_image_26 : decode cX12_image 26 = .ok (.getfield 44, 3) := by decide +kernel
theorem dX12_image_29 : decode cX12_image 29 = .ok (.invokestatic 182, 3) := by decide +kernel
theorem dX12_image_32 : decode cX12_image 32 = .ok (.aload_n 0, 1) := by decide +kernel
theorem dX12_image_33 : decode cX12_image 33 = .ok (.getfield 22, 3) := by decide +kernel
theorem dX12_image_36 : decode cX12_image 36 = .ok (.aload_n 0, 1) := by decide +kernel
theorem dX12_image_37 : decode cX12_image 37 = .ok (.getfield 47, 3) := by decide +kernel
theorem dX12_image_40 : decode cX12_image 40 = .ok (.invokestatic 182, 3) := by decide +kernel
theorem dX12_image_43 : decode cX12_image 43 = .ok (.aload_n 0, 1) := by decide +kernel
theorem dX12_image_44 : decode cX12_image 44 = .ok (.getfield 38, 3) := by decide +kernel
theorem dX12_image_47 : decode cX12_image 47 = .ok (.aload_n 0, 1) := by decide +kernel
theorem dX12_image_48 : decode cX12_image 48 = .ok (.getfield 50, 3) := by decide +kernel
theorem dX12_image_51 : decode cX12_image 51 = .ok (.invokestatic 182, 3) := by decide +kernel
theorem dX12_image_54 : decode cX12_image 54 = .ok (.aload_n 0, 1) := by decide +kernel
theorem dX12_image_55 : decode cX12_image 55 = .ok (.aload_n 0, 1) := by decide +kernel
theorem dX12_image_56 : decode cX12_image 56 = .ok (.getfield 94, 3) := by decide +kernel
theorem dX12_image_59 : decode cX12_image 59 = .ok (.putfield 251, 3) := by decide +kernel
theorem dX12_image_62 : decode cX12_image 62 = .ok (.aload_n 0, 1) := by decide +kernel
theorem dX12_image_63 : decode cX12_image 63 = .ok (.aload_n 0, 1) := by decide +kernel
theorem dX12_image_64 : decode cX12_image 64 = .ok (.getfield 97, 3) := by decide +kernel
theorem dX12_image_67 : decode cX12_image 67 = .ok (.putfield 254, 3) := by decide +kernel
theorem dX12_image_70 : decode cX12_image 70 = .ok (.aload_n 0, 1) := by decide +kernel
theorem dX12_image_71 : decode cX12_image 71 = .ok (.aload_n 0, 1) := by decide +kernel
theorem dX12_image_72 : decode cX12_image 72 = .ok (.getfield 100, 3) := by decide +kernel
theorem dX12_image_75 : decode cX12_image 75 = .ok (.putfield 53, 3) := by decide +kernel
theorem dX12_image_78 : decode cX12_image 78 = .ok (.aload_n 0, 1) := by decide +kernel
theorem dX12_image_79 : decode cX12_image 79 = .ok (.getfield 91, 3) := by decide +kernel
theorem dX12_image_82 : decode cX12_image 82 = .ok (.aload_n 0, 1) := by decide +kernel
theorem dX12_image_83 : decode cX12_image 83 = .ok (.invokevirtual 161, 3) := by decide +kernel
theorem dX12_image_86 : decode cX12_image 86 = .ok (.isub, 1) := by decide +kernel
theorem dX12_image_87 : decode cX12_image 87 = .ok (.ireturn, 1) := by decide +kernel
theorem dX12_restore_0 : decode cX12_restore 0 = .ok (.aload_n 0, 1) := by decide +kernel
theorem dX12_restore_1 : decode cX12_restore 1 = .ok (.getfield 53, 3) := by decide +kernel
theorem dX12_restore_4 : decode cX12_restore 4 = .ok (.aload_n 0, 1) := by decide +kernel
theorem dX12_restore_5 : decode cX12_restore 5 = .ok (.getfield 100, 3) := by decide +kernel
theorem dX12_restore_8 : decode cX12_restore 8 = .ok (.if_icmp .eq 6, 3) := by decide +kernel
theorem dX12_restore_11 : decode cX12_restore 11 = .ok (.bipush (-103), 2) := by decide +kernel
theorem dX12_restore_13 : decode cX12_restore 13 = .ok (.ireturn, 1) := by decide +kernel
theorem dX12_restore_14 : decode cX12_restore 14 = .ok (.aload_n 0, 1) := by decide +kernel
theorem dX12_restore_15 : decode cX12_restore 15 = .ok (.getfield 41, 3) := by decide +kernel
theorem dX12_restore_18 : decode cX12_restore 18 = .ok (.aload_n 0, 1) := by decide +kernel
theorem dX12_restore_19 : decode cX12_restore 19 = .ok (.getfield 16, 3) := by decide +kernel
theorem dX12_restore_22 : decode cX12_restore 22 = .ok (.invokestatic 182, 3) := by decide +kernel
theorem dX12_restore_25 : decode cX12_restore 25 = .ok (.aload_n 0, 1) := by decide +kernel
theorem dX12_restore_26 : decode cX12_restore 26 = .ok (.getfield 44, 3) := by decide +kernel
theorem dX12_restore_29 : decode cX12_restore 29 = .ok (.aload_n 0, 1) := by decide +kernel
theorem dX12_restore_30 : decode cX12_restore 30 = .ok (.getfield 19, 3) := by decide +kernel
theorem dX12_restore_33 : decode cX12_restore 33 = .ok (.invokestatic 182, 3) := by decide +kernel
theorem dX12_restore_36 : decode cX12_restore 36 = .ok (.aload_n 0, 1) := by decide +kernel
theorem dX12_restore_37 : decode cX12_restore 37 = .ok (.getfield 47, 3) := by decide +kernel
theorem dX12_restore_40 : decode cX12_restore 40 = .ok (.aload_n 0, 1) := by decide +kernel
theorem dX12_restore_41 : decode cX12_restore 41 = .ok (.getfield 22, 3) := by decide +kernel
theorem dX12_restore_44 : decode cX12_restore 44 = .ok (.invokestatic 182, 3) := by decide +kernel
theorem dX12_restore_47 : decode cX12_restore 47 = .ok (.aload_n 0, 1) := by decide +kernel
theorem dX12_restore_48 : decode cX12_restore 48 = .ok (.getfield 50, 3) := by decide +kernel
theorem dX12_restore_51 : decode cX12_restore 51 = .ok (.aload_n 0, 1) := by decide +kernel
theorem dX12_restore_52 : decode cX12_restore 52 = .ok (.getfield 38, 3) := by decide +kernel
theorem dX12_restore_55 : decode cX12_restore 55 = .ok (.invokestatic 182, 3) := by decide +kernel
theorem dX12_restore_58 : decode cX12_restore 58 = .ok (.aload_n 0, 1) := by decide +kernel
theorem dX12_restore_59 : decode cX12_restore 59 = .ok (.aload_n 0, 1) := by decide +kernel
theorem dX12_restore_60 : decode cX12_restore 60 = .ok (.getfield 251, 3) := by decide +kernel
theorem dX12_restore_63 : decode cX12_restore 63 = .ok (.putfield 94, 3) := by decide +kernel
theorem dX12_restore_66 : decode cX12_restore 66 = .ok (.aload_n 0, 1) := by decide +kernel
theorem dX12_restore_67 : decode cX12_restore 67 = .ok (.aload_n 0, 1) := by decide +kernel
theorem dX12_restore_68 : decode cX12_restore 68 = .ok (.getfield 254, 3) := by decide +kernel
theorem dX12_restore_71 : decode cX12_restore 71 = .ok (.putfield 97, 3) := by decide +kernel
theorem dX12_restore_74 : decode cX12_restore 74 = .ok (.aload_n 0, 1) := by decide +kernel
theorem dX12_restore_75 : decode cX12_restore 75 = .ok (.getfield 91, 3) := by decide +kernel
theorem dX12_restore_78 : decode cX12_restore 78 = .ok (.aload_n 0, 1) := by decide +kernel
theorem dX12_restore_79 : decode cX12_restore 79 = .ok (.invokevirtual 161, 3) := by decide +kernel
theorem dX12_restore_82 : decode cX12_restore 82 = .ok (.isub, 1) := by decide +kernel
theorem dX12_restore_83 : decode cX12_restore 83 = .ok (.ireturn, 1) := by decide +kernel
theorem dX12_lentMany_0 : decode cX12_lentMany 0 = .ok (.iconst 0, 1) := by decide +kernel
theorem dX12_lentMany_1 : decode cX12_lentMany 1 = .ok (.istore_n 1, 1) := by decide +kernel
theorem dX12_lentMany_2 : decode cX12_lentMany 2 = .ok (.iconst 0, 1) := by decide +kernel
theorem dX12_lentMany_3 : decode cX12_lentMany 3 = .ok (.istore_n 2, 1) := by decide +kernel
theorem dX12_lentMany_4 : decode cX12_lentMany 4 = .ok (.iload_n 2, 1) := by decide +kernel
theorem dX12_lentMany_5 : decode cX12_lentMany 5 = .ok (.iconst 2, 1) := by decide +kernel
theorem dX12_lentMany_6 : decode cX12_lentMany 6 = .ok (.aload_n 0, 1) := by decide +kernel
theorem dX12_lentMany_7 : decode cX12_lentMany 7 = .ok (.getfield 91, 3) := by decide +kernel
theorem dX12_lentMany_10 : decode cX12_lentMany 10 = .ok (.imul, 1) := by decide +kernel
theorem dX12_lentMany_11 : decode cX12_lentMany 11 = .ok (.if_icmp .ge 31, 3) := by decide +kernel
theorem dX12_lentMany_14 : decode cX12_lentMany 14 = .ok (.iload_n 1, 1) := by decide +kernel
theorem dX12_lentMany_15 : decode cX12_lentMany 15 = .ok (.aload_n 0, 1) := by decide +kernel
theorem dX12_lentMany_16 : decode cX12_lentMany 16 = .ok (.iload_n 2, 1) := by decide +kernel
theorem dX12_lentMany_17 : decode cX12_lentMany 17 = .ok (.iconst 2, 1) := by decide +kernel
theorem dX12_lentMany_18 : decode cX12_lentMany 18 = .ok (.idiv, 1) := by decide +kernel
theorem dX12_lentMany_19 : decode cX12_lentMany 19 = .ok (.iload_n 2, 1) := by decide +kernel
theorem dX12_lentMany_20 : decode cX12_lentMany 20 = .ok (.iconst 2, 1) := by decide +kernel
theorem dX12_lentMany_21 : decode cX12_lentMany 21 = .ok (.irem, 1) := by decide +kernel
theorem dX12_lentMany_22 : decode cX12_lentMany 22 = .ok (.invokevirtual 106, 3) := by decide +kernel
theorem dX12_lentMany_25 : decode cX12_lentMany 25 = .ok (.iconst (-1), 1) := by decide +kernel
theorem dX12_lentMany_26 : decode cX12_lentMany 26 = .ok (.if_icmp .ne 7, 3) := by decide +kernel
theorem dX12_lentMany_29 : decode cX12_lentMany 29 = .ok (.iconst 0, 1) := by decide +kernel
theorem dX12_lentMany_30 : decode cX12_lentMany 30 = .ok (.goto 4, 3) := by decide +kernel
theorem dX12_lentMany_33 : decode cX12_lentMany 33 = .ok (.iconst 1, 1) := by decide +kernel
theorem dX12_lentMany_34 : decode cX12_lentMany 34 = .ok (.iadd, 1) := by decide +kernel
theorem dX12_lentMany_35 : decode cX12_lentMany 35 = .ok (.istore_n 1, 1) := by decide +kernel
theorem dX12_lentMany_36 : decode cX12_lentMany 36 = .ok (.iinc 2 1, 3) := by decide +kernel
theorem dX12_lentMany_39 : decode cX12_lentMany 39 = .ok (.goto (-35), 3) := by decide +kernel
theorem dX12_lentMany_42 : decode cX12_lentMany 42 = .ok (.iload_n 1, 1) := by decide +kernel
theorem dX12_lentMany_43 : decode cX12_lentMany 43 = .ok (.ireturn, 1) := by decide +kernel
theorem dX12_countOf_0 : decode cX12_countOf 0 = .ok (.iload_n 1, 1) := by decide +kernel
theorem dX12_countOf_1 : decode cX12_countOf 1 = .ok (.tableswitch 96 0 8 #[51, 56, 61, 66, 71, 76, 81, 86, 91], 51) := by decide +kernel
theorem dX12_countOf_52 : decode cX12_countOf 52 = .ok (.aload_n 0, 1) := by decide +kernel
theorem dX12_countOf_53 : decode cX12_countOf 53 = .ok (.getfield 91, 3) := by decide +kernel
theorem dX12_countOf_56 : decode cX12_countOf 56 = .ok (.ireturn, 1) := by decide +kernel
theorem dX12_countOf_57 : decode cX12_countOf 57 = .ok (.aload_n 0, 1) := by decide +kernel
theorem dX12_countOf_58 : decode cX12_countOf 58 = .ok (.invokevirtual 161, 3) := by decide +kernel
theorem dX12_countOf_61 : decode cX12_countOf 61 = .ok (.ireturn, 1) := by decide +kernel
theorem dX12_countOf_62 : decode cX12_countOf 62 = .ok (.aload_n 0, 1) := by decide +kernel
theorem dX12_countOf_63 : decode cX12_countOf 63 = .ok (.invokevirtual 245, 3) := by decide +kernel
theorem dX12_countOf_66 : decode cX12_countOf 66 = .ok (.ireturn, 1) := by decide +kernel
theorem dX12_countOf_67 : decode cX12_countOf 67 = .ok (.aload_n 0, 1) := by decide +kernel
theorem dX12_countOf_68 : decode cX12_countOf 68 = .ok (.invokevirtual 248, 3) := by decide +kernel
theorem dX12_countOf_71 : decode cX12_countOf 71 = .ok (.ireturn, 1) := by decide +kernel
theorem dX12_countOf_72 : decode cX12_countOf 72 = .ok (.aload_n 0, 1) := by decide +kernel
theorem dX12_countOf_73 : decode cX12_countOf 73 = .ok (.invokevirtual 257, 3) := by decide +kernel
theorem dX12_countOf_76 : decode cX12_countOf 76 = .ok (.ireturn, 1) := by decide +kernel
theorem dX12_countOf_77 : decode cX12_countOf 77 = .ok (.aload_n 0, 1) := by decide +kernel
theorem dX12_countOf_78 : decode cX12_countOf 78 = .ok (.getfield 94, 3) := by decide +kernel
theorem dX12_countOf_81 : decode cX12_countOf 81 = .ok (.ireturn, 1) := by decide +kernel
theorem dX12_countOf_82 : decode cX12_countOf 82 = .ok (.aload_n 0, 1) := by decide +kernel
theorem dX12_countOf_83 : decode cX12_countOf 83 = .ok (.getfield 97, 3) := by decide +kernel
theorem dX12_countOf_86 : decode cX12_countOf 86 = .ok (.ireturn, 1) := by decide +kernel
theorem dX12_countOf_87 : decode cX12_countOf 87 = .ok (.aload_n 0, 1) := by decide +kernel
theorem dX12_countOf_88 : decode cX12_countOf 88 = .ok (.getfield 66, 3) := by decide +kernel
theorem dX12_countOf_91 : decode cX12_countOf 91 = .ok (.ireturn, 1) := by decide +kernel
theorem dX12_countOf_92 : decode cX12_countOf 92 = .ok (.aload_n 0, 1) := by decide +kernel
theorem dX12_countOf_93 : decode cX12_countOf 93 = .ok (.getfield 100, 3) := by decide +kernel
theorem dX12_countOf_96 : decode cX12_countOf 96 = .ok (.ireturn, 1) := by decide +kernel
theorem dX12_countOf_97 : decode cX12_countOf 97 = .ok (.bipush (-102), 2) := by decide +kernel
theorem dX12_countOf_99 : decode cX12_countOf 99 = .ok (.ireturn, 1) := by decide +kernel
theorem dX12_count_0 : decode cX12_count 0 = .ok (.aload_n 0, 1) := by decide +kernel
theorem dX12_count_1 : decode cX12_count 1 = .ok (.iload_n 1, 1) := by decide +kernel
theorem dX12_count_2 : decode cX12_count 2 = .ok (.invokevirtual 260, 3) := by decide +kernel
theorem dX12_count_5 : decode cX12_count 5 = .ok (.ireturn, 1) := by decide +kernel
theorem dX12_say_0 : decode cX12_say 0 = .ok (.aload_n 0, 1) := by decide +kernel
theorem dX12_say_1 : decode cX12_say 1 = .ok (.ldc2_w 263, 3) := by decide +kernel
theorem dX12_say_4 : decode cX12_say 4 = .ok (.aload_n 0, 1) := by decide +kernel
theorem dX12_say_5 : decode cX12_say 5 = .ok (.getfield 265, 3) := by decide +kernel
theorem dX12_say_8 : decode cX12_say 8 = .ok (.lmul, 1) := by decide +kernel
theorem dX12_say_9 : decode cX12_say 9 = .ok (.lload_n 1, 1) := by decide +kernel
theorem dX12_say_10 : decode cX12_say 10 = .ok (.ladd, 1) := by decide +kernel
theorem dX12_say_11 : decode cX12_say 11 = .ok (.putfield 265, 3) := by decide +kernel
theorem dX12_say_14 : decode cX12_say 14 = .ok (.return_, 1) := by decide +kernel
theorem dX12_digest_0 : decode cX12_digest 0 = .ok (.aload_n 0, 1) := by decide +kernel
theorem dX12_digest_1 : decode cX12_digest 1 = .ok (.ldc2_w 269, 3) := by decide +kernel
theorem dX12_digest_4 : decode cX12_digest 4 = .ok (.putfield 265, 3) := by decide +kernel
theorem dX12_digest_7 : decode cX12_digest 7 = .ok (.iconst 0, 1) := by decide +kernel
theorem dX12_digest_8 : decode cX12_digest 8 = .ok (.istore_n 1, 1) := by decide +kernel
theorem dX12_digest_9 : decode cX12_digest 9 = .ok (.iload_n 1, 1) := by decide +kernel
theorem dX12_digest_10 : decode cX12_digest 10 = .ok (.aload_n 0, 1) := by decide +kernel
theorem dX12_digest_11 : decode cX12_digest 11 = .ok (.getfield 91, 3) := by decide +kernel
theorem dX12_digest_14 : decode cX12_digest 14 = .ok (.if_icmp .ge 34, 3) := by decide +kernel
theorem dX12_digest_17 : decode cX12_digest 17 = .ok (.iconst 0, 1) := by decide +kernel
theorem dX12_digest_18 : decode cX12_digest 18 = .ok (.istore_n 2, 1) := by decide +kernel
theorem dX12_digest_19 : decode cX12_digest 19 = .ok (.iload_n 2, 1) := by decide +kernel
theorem dX12_digest_20 : decode cX12_digest 20 = .ok (.bipush 9, 2) := by decide +kernel
theorem dX12_digest_22 : decode cX12_digest 22 = .ok (.if_icmp .ge 20, 3) := by decide +kernel
theorem dX12_digest_25 : decode cX12_digest 25 = .ok (.aload_n 0, 1) := by decide +kernel
theorem dX12_digest_26 : decode cX12_digest 26 = .ok (.aload_n 0, 1) := by decide +kernel
theorem dX12_digest_27 : decode cX12_digest 27 = .ok (.iload_n 1, 1) := by decide +kernel
theorem dX12_digest_28 : decode cX12_digest 28 = .ok (.iload_n 2, 1) := by decide +kernel
theorem dX12_digest_29 : decode cX12_digest 29 = .ok (.invokevirtual 125, 3) := by decide +kernel
theorem dX12_digest_32 : decode cX12_digest 32 = .ok (.i2l, 1) := by decide +kernel
theorem dX12_digest_33 : decode cX12_digest 33 = .ok (.invokevirtual 271, 3) := by decide +kernel
theorem dX12_digest_36 : decode cX12_digest 36 = .ok (.iinc 2 1, 3) := by decide +kernel
theorem dX12_digest_39 : decode cX12_digest 39 = .ok (.goto (-20), 3) := by decide +kernel
theorem dX12_digest_42 : decode cX12_digest 42 = .ok (.iinc 1 1, 3) := by decide +kernel
theorem dX12_digest_45 : decode cX12_digest 45 = .ok (.goto (-36), 3) := by decide +kernel
theorem dX12_digest_48 : decode cX12_digest 48 = .ok (.iconst 0, 1) := by decide +kernel
theorem dX12_digest_49 : decode cX12_digest 49 = .ok (.istore_n 1, 1) := by decide +kernel
theorem dX12_digest_50 : decode cX12_digest 50 = .ok (.iload_n 1, 1) := by decide +kernel
theorem dX12_digest_51 : decode cX12_digest 51 = .ok (.bipush 6, 2) := by decide +kernel
theorem dX12_digest_53 : decode cX12_digest 53 = .ok (.if_icmp .ge 34, 3) := by decide +kernel
theorem dX12_digest_56 : decode cX12_digest 56 = .ok (.iconst 0, 1) := by decide +kernel
theorem dX12_digest_57 : decode cX12_digest 57 = .ok (.istore_n 2, 1) := by decide +kernel
theorem dX12_digest_58 : decode cX12_digest 58 = .ok (.iload_n 2, 1) := by decide +kernel
theorem dX12_digest_59 : decode cX12_digest 59 = .ok (.bipush 6, 2) := by decide +kernel
theorem dX12_digest_61 : decode cX12_digest 61 = .ok (.if_icmp .ge 20, 3) := by decide +kernel
theorem dX12_digest_64 : decode cX12_digest 64 = .ok (.aload_n 0, 1) := by decide +kernel
theorem dX12_digest_65 : decode cX12_digest 65 = .ok (.aload_n 0, 1) := by decide +kernel
theorem dX12_digest_66 : decode cX12_digest 66 = .ok (.iload_n 1, 1) := by decide +kernel
theorem dX12_digest_67 : decode cX12_digest 67 = .ok (.iload_n 2, 1) := by decide +kernel
theorem dX12_digest_68 : decode cX12_digest 68 = .ok (.invokevirtual 136, 3) := by decide +kernel
theorem dX12_digest_71 : decode cX12_digest 71 = .ok (.i2l, 1) := by decide +kernel
theorem dX12_digest_72 : decode cX12_digest 72 = .ok (.invokevirtual 271, 3) := by decide +kernel
theorem dX12_digest_75 : decode cX12_digest 75 = .ok (.iinc 2 1, 3) := by decide +kernel
theorem dX12_digest_78 : decode cX12_digest 78 = .ok (.goto (-20), 3) := by decide +kernel
theorem dX12_digest_81 : decode cX12_digest 81 = .ok (.iinc 1 1, 3) := by decide +kernel
theorem dX12_digest_84 : decode cX12_digest 84 = .ok (.goto (-34), 3) := by decide +kernel
theorem dX12_digest_87 : decode cX12_digest 87 = .ok (.iconst 0, 1) := by decide +kernel
theorem dX12_digest_88 : decode cX12_digest 88 = .ok (.istore_n 1, 1) := by decide +kernel
theorem dX12_digest_89 : decode cX12_digest 89 = .ok (.iload_n 1, 1) := by decide +kernel
theorem dX12_digest_90 : decode cX12_digest 90 = .ok (.bipush 36, 2) := by decide +kernel
theorem dX12_digest_92 : decode cX12_digest 92 = .ok (.if_icmp .ge 37, 3) := by decide +kernel
theorem dX12_digest_95 : decode cX12_digest 95 = .ok (.iload_n 1, 1) := by decide +kernel
theorem dX12_digest_96 : decode cX12_digest 96 = .ok (.bipush 6, 2) := by decide +kernel
theorem dX12_digest_98 : decode cX12_digest 98 = .ok (.idiv, 1) := by decide +kernel
theorem dX12_digest_99 : decode cX12_digest 99 = .ok (.iload_n 1, 1) := by decide +kernel
theorem dX12_digest_100 : decode cX12_digest 100 = .ok (.bipush 6, 2) := by decide +kernel
theorem dX12_digest_102 : decode cX12_digest 102 = .ok (.irem, 1) := by decide +kernel
theorem dX12_digest_103 : decode cX12_digest 103 = .ok (.if_icmp .eq 20, 3) := by decide +kernel
theorem dX12_digest_106 : decode cX12_digest 106 = .ok (.aload_n 0, 1) := by decide +kernel
theorem dX12_digest_107 : decode cX12_digest 107 = .ok (.aload_n 0, 1) := by decide +kernel
theorem dX12_digest_108 : decode cX12_digest 108 = .ok (.iload_n 1, 1) := by decide +kernel
theorem dX12_digest_109 : decode cX12_digest 109 = .ok (.bipush 6, 2) := by decide +kernel
theorem dX12_digest_111 : decode cX12_digest 111 = .ok (.idiv, 1) := by decide +kernel
theorem dX12_digest_112 : decode cX12_digest 112 = .ok (.iload_n 1, 1) := by decide +kernel
theorem dX12_digest_113 : decode cX12_digest 113 = .ok (.bipush 6, 2) := by decide +kernel
theorem dX12_digest_115 : decode cX12_digest 115 = .ok (.irem, 1) := by decide +kernel
theorem dX12_digest_116 : decode cX12_digest 116 = .ok (.invokevirtual 176, 3) := by decide +kernel
theorem dX12_digest_119 : decode cX12_digest 119 = .ok (.i2l, 1) := by decide +kernel
theorem dX12_digest_120 : decode cX12_digest 120 = .ok (.invokevirtual 271, 3) := by decide +kernel
theorem dX12_digest_123 : decode cX12_digest 123 = .ok (.iinc 1 1, 3) := by decide +kernel
theorem dX12_digest_126 : decode cX12_digest 126 = .ok (.goto (-37), 3) := by decide +kernel
theorem dX12_digest_129 : decode cX12_digest 129 = .ok (.aload_n 0, 1) := by decide +kernel
theorem dX12_digest_130 : decode cX12_digest 130 = .ok (.invokevirtual 139, 3) := by decide +kernel
theorem dX12_digest_133 : decode cX12_digest 133 = .ok (.ifCond .ne 43, 3) := by decide +kernel
theorem dX12_digest_136 : decode cX12_digest 136 = .ok (.aload_n 0, 1) := by decide +kernel
theorem dX12_digest_137 : decode cX12_digest 137 = .ok (.aload_n 0, 1) := by decide +kernel
theorem dX12_digest_138 : decode cX12_digest 138 = .ok (.iconst 0, 1) := by decide +kernel
theorem dX12_digest_139 : decode cX12_digest 139 = .ok (.invokevirtual 201, 3) := by decide +kernel
theorem dX12_digest_142 : decode cX12_digest 142 = .ok (.i2l, 1) := by decide +kernel
theorem dX12_digest_143 : decode cX12_digest 143 = .ok (.invokevirtual 271, 3) := by decide +kernel
theorem dX12_digest_146 : decode cX12_digest 146 = .ok (.aload_n 0, 1) := by decide +kernel
theorem dX12_digest_147 : decode cX12_digest 147 = .ok (.aload_n 0, 1) := by decide +kernel
theorem dX12_digest_148 : decode cX12_digest 148 = .ok (.iconst 1, 1) := by decide +kernel
theorem dX12_digest_149 : decode cX12_digest 149 = .ok (.invokevirtual 201, 3) := by decide +kernel
theorem dX12_digest_152 : decode cX12_digest 152 = .ok (.i2l, 1) := by decide +kernel
theorem dX12_digest_153 : decode cX12_digest 153 = .ok (.invokevirtual 271, 3) := by decide +kernel
theorem dX12_digest_156 : decode cX12_digest 156 = .ok (.aload_n 0, 1) := by decide +kernel
theorem dX12_digest_157 : decode cX12_digest 157 = .ok (.aload_n 0, 1) := by decide +kernel
theorem dX12_digest_158 : decode cX12_digest 158 = .ok (.iconst 0, 1) := by decide +kernel
theorem dX12_digest_159 : decode cX12_digest 159 = .ok (.invokevirtual 225, 3) := by decide +kernel
theorem dX12_digest_162 : decode cX12_digest 162 = .ok (.i2l, 1) := by decide +kernel
theorem dX12_digest_163 : decode cX12_digest 163 = .ok (.invokevirtual 271, 3) := by decide +kernel
theorem dX12_digest_166 : decode cX12_digest 166 = .ok (.aload_n 0, 1) := by decide +kernel
theorem dX12_digest_167 : decode cX12_digest 167 = .ok (.aload_n 0, 1) := by decide +kernel
theorem dX12_digest_168 : decode cX12_digest 168 = .ok (.iconst 1, 1) := by decide +kernel
theorem dX12_digest_169 : decode cX12_digest 169 = .ok (.invokevirtual 225, 3) := by decide +kernel
theorem dX12_digest_172 : decode cX12_digest 172 = .ok (.i2l, 1) := by decide +kernel
theorem dX12_digest_173 : decode cX12_digest 173 = .ok (.invokevirtual 271, 3) := by decide +kernel
theorem dX12_digest_176 : decode cX12_digest 176 = .ok (.iconst 0, 1) := by decide +kernel
theorem dX12_digest_177 : decode cX12_digest 177 = .ok (.istore_n 1, 1) := by decide +kernel
theorem dX12_digest_178 : decode cX12_digest 178 = .ok (.iload_n 1, 1) := by decide +kernel
theorem dX12_digest_179 : decode cX12_digest 179 = .ok (.aload_n 0, 1) := by decide +kernel
theorem dX12_digest_180 : decode cX12_digest 180 = .ok (.getfield 66, 3) := by decide +kernel
theorem dX12_digest_183 : decode cX12_digest 183 = .ok (.if_icmp .ge 20, 3) := by decide +kernel
theorem dX12_digest_186 : decode cX12_digest 186 = .ok (.aload_n 0, 1) := by decide +kernel
theorem dX12_digest_187 : decode cX12_digest 187 = .ok (.aload_n 0, 1) := by decide +kernel
theorem dX12_digest_188 : decode cX12_digest 188 = .ok (.getfield 7, 3) := by decide +kernel
theorem dX12_digest_191 : decode cX12_digest 191 = .ok (.iload_n 1, 1) := by decide +kernel
theorem dX12_digest_192 : decode cX12_digest 192 = .ok (.iaload, 1) := by decide +kernel
theorem dX12_digest_193 : decode cX12_digest 193 = .ok (.i2l, 1) := by decide +kernel
theorem dX12_digest_194 : decode cX12_digest 194 = .ok (.invokevirtual 271, 3) := by decide +kernel
theorem dX12_digest_197 : decode cX12_digest 197 = .ok (.iinc 1 1, 3) := by decide +kernel
theorem dX12_digest_200 : decode cX12_digest 200 = .ok (.goto (-22), 3) := by decide +kernel
theorem dX12_digest_203 : decode cX12_digest 203 = .ok (.iconst 0, 1) := by decide +kernel
theorem dX12_digest_204 : decode cX12_digest 204 = .ok (.istore_n 1, 1) := by decide +kernel
theorem dX12_digest_205 : decode cX12_digest 205 = .ok (.iload_n 1, 1) := by decide +kernel
theorem dX12_digest_206 : decode cX12_digest 206 = .ok (.bipush 9, 2) := by decide +kernel
theorem dX12_digest_208 : decode cX12_digest 208 = .ok (.if_icmp .ge 19, 3) := by decide +kernel
theorem dX12_digest_211 : decode cX12_digest 211 = .ok (.aload_n 0, 1) := by decide +kernel
theorem dX12_digest_212 : decode cX12_digest 212 = .ok (.aload_n 0, 1) := by decide +kernel
theorem dX12_digest_213 : decode cX12_digest 213 = .ok (.iload_n 1, 1) := by decide +kernel
theorem dX12_digest_214 : decode cX12_digest 214 = .ok (.invokevirtual 260, 3) := by decide +kernel
theorem dX12_digest_217 : decode cX12_digest 217 = .ok (.i2l, 1) := by decide +kernel
theorem dX12_digest_218 : decode cX12_digest 218 = .ok (.invokevirtual 271, 3) := by decide +kernel
theorem dX12_digest_221 : decode cX12_digest 221 = .ok (.iinc 1 1, 3) := by decide +kernel
theorem dX12_digest_224 : decode cX12_digest 224 = .ok (.goto (-19), 3) := by decide +kernel
theorem dX12_digest_227 : decode cX12_digest 227 = .ok (.aload_n 0, 1) := by decide +kernel
theorem dX12_digest_228 : decode cX12_digest 228 = .ok (.getfield 265, 3) := by decide +kernel
theorem dX12_digest_231 : decode cX12_digest 231 = .ok (.lreturn, 1) := by decide +kernel
theorem dJ6_bitCount_0f7a4_0 : decode cJ6_bitCount_0f7a4 0 = .ok (.iload_n 0, 1) := by decide +kernel
theorem dJ6_bitCount_0f7a4_1 : decode cJ6_bitCount_0f7a4 1 = .ok (.iload_n 0, 1) := by decide +kernel
theorem dJ6_bitCount_0f7a4_2 : decode cJ6_bitCount_0f7a4 2 = .ok (.iconst 1, 1) := by decide +kernel
theorem dJ6_bitCount_0f7a4_3 : decode cJ6_bitCount_0f7a4 3 = .ok (.iushr, 1) := by decide +kernel
theorem dJ6_bitCount_0f7a4_4 : decode cJ6_bitCount_0f7a4 4 = .ok (.ldc_w 265, 3) := by decide +kernel
theorem dJ6_bitCount_0f7a4_7 : decode cJ6_bitCount_0f7a4 7 = .ok (.iand, 1) := by decide +kernel
theorem dJ6_bitCount_0f7a4_8 : decode cJ6_bitCount_0f7a4 8 = .ok (.isub, 1) := by decide +kernel
theorem dJ6_bitCount_0f7a4_9 : decode cJ6_bitCount_0f7a4 9 = .ok (.istore_n 0, 1) := by decide +kernel
theorem dJ6_bitCount_0f7a4_10 : decode cJ6_bitCount_0f7a4 10 = .ok (.iload_n 0, 1) := by decide +kernel
theorem dJ6_bitCount_0f7a4_11 : decode cJ6_bitCount_0f7a4 11 = .ok (.ldc_w 266, 3) := by decide +kernel
theorem dJ6_bitCount_0f7a4_14 : decode cJ6_bitCount_0f7a4 14 = .ok (.iand, 1) := by decide +kernel
theorem dJ6_bitCount_0f7a4_15 : decode cJ6_bitCount_0f7a4 15 = .ok (.iload_n 0, 1) := by decide +kernel
theorem dJ6_bitCount_0f7a4_16 : decode cJ6_bitCount_0f7a4 16 = .ok (.iconst 2, 1) := by decide +kernel
theorem dJ6_bitCount_0f7a4_17 : decode cJ6_bitCount_0f7a4 17 = .ok (.iushr, 1) := by decide +kernel
theorem dJ6_bitCount_0f7a4_18 : decode cJ6_bitCount_0f7a4 18 = .ok (.ldc_w 266, 3) := by decide +kernel
theorem dJ6_bitCount_0f7a4_21 : decode cJ6_bitCount_0f7a4 21 = .ok (.iand, 1) := by decide +kernel
theorem dJ6_bitCount_0f7a4_22 : decode cJ6_bitCount_0f7a4 22 = .ok (.iadd, 1) := by decide +kernel
theorem dJ6_bitCount_0f7a4_23 : decode cJ6_bitCount_0f7a4 23 = .ok (.istore_n 0, 1) := by decide +kernel
theorem dJ6_bitCount_0f7a4_24 : decode cJ6_bitCount_0f7a4 24 = .ok (.iload_n 0, 1) := by decide +kernel
theorem dJ6_bitCount_0f7a4_25 : decode cJ6_bitCount_0f7a4 25 = .ok (.iload_n 0, 1) := by decide +kernel
theorem dJ6_bitCount_0f7a4_26 : decode cJ6_bitCount_0f7a4 26 = .ok (.iconst 4, 1) := by decide +kernel
theorem dJ6_bitCount_0f7a4_27 : decode cJ6_bitCount_0f7a4 27 = .ok (.iushr, 1) := by decide +kernel
theorem dJ6_bitCount_0f7a4_28 : decode cJ6_bitCount_0f7a4 28 = .ok (.iadd, 1) := by decide +kernel
theorem dJ6_bitCount_0f7a4_29 : decode cJ6_bitCount_0f7a4 29 = .ok (.ldc_w 267, 3) := by decide +kernel
theorem dJ6_bitCount_0f7a4_32 : decode cJ6_bitCount_0f7a4 32 = .ok (.iand, 1) := by decide +kernel
theorem dJ6_bitCount_0f7a4_33 : decode cJ6_bitCount_0f7a4 33 = .ok (.istore_n 0, 1) := by decide +kernel
theorem dJ6_bitCount_0f7a4_34 : decode cJ6_bitCount_0f7a4 34 = .ok (.iload_n 0, 1) := by decide +kernel
theorem dJ6_bitCount_0f7a4_35 : decode cJ6_bitCount_0f7a4 35 = .ok (.iload_n 0, 1) := by decide +kernel
theorem dJ6_bitCount_0f7a4_36 : decode cJ6_bitCount_0f7a4 36 = .ok (.bipush 8, 2) := by decide +kernel
theorem dJ6_bitCount_0f7a4_38 : decode cJ6_bitCount_0f7a4 38 = .ok (.iushr, 1) := by decide +kernel
theorem dJ6_bitCount_0f7a4_39 : decode cJ6_bitCount_0f7a4 39 = .ok (.iadd, 1) := by decide +kernel
theorem dJ6_bitCount_0f7a4_40 : decode cJ6_bitCount_0f7a4 40 = .ok (.istore_n 0, 1) := by decide +kernel
theorem dJ6_bitCount_0f7a4_41 : decode cJ6_bitCount_0f7a4 41 = .ok (.iload_n 0, 1) := by decide +kernel
theorem dJ6_bitCount_0f7a4_42 : decode cJ6_bitCount_0f7a4 42 = .ok (.iload_n 0, 1) := by decide +kernel
theorem dJ6_bitCount_0f7a4_43 : decode cJ6_bitCount_0f7a4 43 = .ok (.bipush 16, 2) := by decide +kernel
theorem dJ6_bitCount_0f7a4_45 : decode cJ6_bitCount_0f7a4 45 = .ok (.iushr, 1) := by decide +kernel
theorem dJ6_bitCount_0f7a4_46 : decode cJ6_bitCount_0f7a4 46 = .ok (.iadd, 1) := by decide +kernel
theorem dJ6_bitCount_0f7a4_47 : decode cJ6_bitCount_0f7a4 47 = .ok (.istore_n 0, 1) := by decide +kernel
theorem dJ6_bitCount_0f7a4_48 : decode cJ6_bitCount_0f7a4 48 = .ok (.iload_n 0, 1) := by decide +kernel
theorem dJ6_bitCount_0f7a4_49 : decode cJ6_bitCount_0f7a4 49 = .ok (.bipush 63, 2) := by decide +kernel
theorem dJ6_bitCount_0f7a4_51 : decode cJ6_bitCount_0f7a4 51 = .ok (.iand, 1) := by decide +kernel
theorem dJ6_bitCount_0f7a4_52 : decode cJ6_bitCount_0f7a4 52 = .ok (.ireturn, 1) := by decide +kernel
theorem dJ9_max_7cf53_0 : decode cJ9_max_7cf53 0 = .ok (.iload_n 0, 1) := by decide +kernel
theorem dJ9_max_7cf53_1 : decode cJ9_max_7cf53 1 = .ok (.iload_n 1, 1) := by decide +kernel
theorem dJ9_max_7cf53_2 : decode cJ9_max_7cf53 2 = .ok (.if_icmp .lt 7, 3) := by decide +kernel
theorem dJ9_max_7cf53_5 : decode cJ9_max_7cf53 5 = .ok (.iload_n 0, 1) := by decide +kernel
theorem dJ9_max_7cf53_6 : decode cJ9_max_7cf53 6 = .ok (.goto 4, 3) := by decide +kernel
theorem dJ9_max_7cf53_9 : decode cJ9_max_7cf53 9 = .ok (.iload_n 1, 1) := by decide +kernel
theorem dJ9_max_7cf53_10 : decode cJ9_max_7cf53 10 = .ok (.ireturn, 1) := by decide +kernel
theorem dJ9_min_7cf53_0 : decode cJ9_min_7cf53 0 = .ok (.iload_n 0, 1) := by decide +kernel
theorem dJ9_min_7cf53_1 : decode cJ9_min_7cf53 1 = .ok (.iload_n 1, 1) := by decide +kernel
theorem dJ9_min_7cf53_2 : decode cJ9_min_7cf53 2 = .ok (.if_icmp .gt 7, 3) := by decide +kernel
theorem dJ9_min_7cf53_5 : decode cJ9_min_7cf53 5 = .ok (.iload_n 0, 1) := by decide +kernel
theorem dJ9_min_7cf53_6 : decode cJ9_min_7cf53 6 = .ok (.goto 4, 3) := by decide +kernel
theorem dJ9_min_7cf53_9 : decode cJ9_min_7cf53 9 = .ok (.iload_n 1, 1) := by decide +kernel
theorem dJ9_min_7cf53_10 : decode cJ9_min_7cf53 10 = .ok (.ireturn, 1) := by decide +kernel
theorem dJ7_fill_d0a16_0 : decode cJ7_fill_d0a16 0 = .ok (.iconst 0, 1) := by decide +kernel
theorem dJ7_fill_d0a16_1 : decode cJ7_fill_d0a16 1 = .ok (.istore_n 3, 1) := by decide +kernel
theorem dJ7_fill_d0a16_2 : decode cJ7_fill_d0a16 2 = .ok (.aload_n 0, 1) := by decide +kernel
theorem dJ7_fill_d0a16_3 : decode cJ7_fill_d0a16 3 = .ok (.arraylength, 1) := by decide +kernel
theorem dJ7_fill_d0a16_4 : decode cJ7_fill_d0a16 4 = .ok (.istore 4, 2) := by decide +kernel
theorem dJ7_fill_d0a16_6 : decode cJ7_fill_d0a16 6 = .ok (.iload_n 3, 1) := by decide +kernel
theorem dJ7_fill_d0a16_7 : decode cJ7_fill_d0a16 7 = .ok (.iload 4, 2) := by decide +kernel
theorem dJ7_fill_d0a16_9 : decode cJ7_fill_d0a16 9 = .ok (.if_icmp .ge 13, 3) := by decide +kernel
theorem dJ7_fill_d0a16_12 : decode cJ7_fill_d0a16 12 = .ok (.aload_n 0, 1) := by decide +kernel
theorem dJ7_fill_d0a16_13 : decode cJ7_fill_d0a16 13 = .ok (.iload_n 3, 1) := by decide +kernel
theorem dJ7_fill_d0a16_14 : decode cJ7_fill_d0a16 14 = .ok (.lload_n 1, 1) := by decide +kernel
theorem dJ7_fill_d0a16_15 : decode cJ7_fill_d0a16 15 = .ok (.lastore, 1) := by decide +kernel
theorem dJ7_fill_d0a16_16 : decode cJ7_fill_d0a16 16 = .ok (.iinc 3 1, 3) := by decide +kernel
theorem dJ7_fill_d0a16_19 : decode cJ7_fill_d0a16 19 = .ok (.goto (-13), 3) := by decide +kernel
theorem dJ7_fill_d0a16_22 : decode cJ7_fill_d0a16 22 = .ok (.return_, 1) := by decide +kernel
theorem dL_law_0 : decode cL_law 0 = .ok (.new 7, 3) := by decide +kernel
theorem dL_law_3 : decode cL_law 3 = .ok (.dup, 1) := by decide +kernel
theorem dL_law_4 : decode cL_law 4 = .ok (.invokespecial 9, 3) := by decide +kernel
theorem dL_law_7 : decode cL_law 7 = .ok (.astore_n 1, 1) := by decide +kernel
theorem dL_law_8 : decode cL_law 8 = .ok (.new 10, 3) := by decide +kernel
theorem dL_law_11 : decode cL_law 11 = .ok (.dup, 1) := by decide +kernel
theorem dL_law_12 : decode cL_law 12 = .ok (.invokespecial 12, 3) := by decide +kernel
theorem dL_law_15 : decode cL_law 15 = .ok (.astore_n 2, 1) := by decide +kernel
theorem dL_law_16 : decode cL_law 16 = .ok (.iconst 0, 1) := by decide +kernel
theorem dL_law_17 : decode cL_law 17 = .ok (.istore_n 3, 1) := by decide +kernel
theorem dL_law_18 : decode cL_law 18 = .ok (.iload_n 3, 1) := by decide +kernel
theorem dL_law_19 : decode cL_law 19 = .ok (.aload_n 0, 1) := by decide +kernel
theorem dL_law_20 : decode cL_law 20 = .ok (.arraylength, 1) := by decide +kernel
theorem dL_law_21 : decode cL_law 21 = .ok (.iconst 4, 1) := by decide +kernel
theorem dL_law_22 : decode cL_law 22 = .ok (.isub, 1) := by decide +kernel
theorem dL_law_23 : decode cL_law 23 = .ok (.if_icmp .gt 862, 3) := by decide +kernel
theorem dL_law_26 : decode cL_law 26 = .ok (.aload_n 0, 1) := by decide +kernel
theorem dL_law_27 : decode cL_law 27 = .ok (.iload_n 3, 1) := by decide +kernel
theorem dL_law_28 : decode cL_law 28 = .ok (.iaload, 1) := by decide +kernel
theorem dL_law_29 : decode cL_law 29 = .ok (.bipush 31, 2) := by decide +kernel
theorem dL_law_31 : decode cL_law 31 = .ok (.iand, 1) := by decide +kernel
theorem dL_law_32 : decode cL_law 32 = .ok (.tableswitch 847 0 26 #[124, 147, 160, 173, 186, 219, 252, 285, 318, 361, 404, 427, 450, 483, 516, 529, 572, 595, 628, 672, 705, 718, 741, 784, 797, 810, 833], 124) := by decide +kernel
theorem dL_law_156 : decode cL_law 156 = .ok (.aload_n 1, 1) := by decide +kernel
theorem dL_law_157 : decode cL_law 157 = .ok (.aload_n 0, 1) := by decide +kernel
theorem dL_law_158 : decode cL_law 158 = .ok (.iload_n 3, 1) := by decide +kernel
theorem dL_law_159 : decode cL_law 159 = .ok (.iconst 1, 1) := by decide +kernel
theorem dL_law_160 : decode cL_law 160 = .ok (.iadd, 1) := by decide +kernel
theorem dL_law_161 : decode cL_law 161 = .ok (.iaload, 1) := by decide +kernel
theorem dL_law_162 : decode cL_law 162 = .ok (.invokevirtual 13, 3) := by decide +kernel
theorem dL_law_165 : decode cL_law 165 = .ok (.aload_n 2, 1) := by decide +kernel
theorem dL_law_166 : decode cL_law 166 = .ok (.aload_n 0, 1) := by decide +kernel
theorem dL_law_167 : decode cL_law 167 = .ok (.iload_n 3, 1) := by decide +kernel
theorem dL_law_168 : decode cL_law 168 = .ok (.iconst 1, 1) := by decide +kernel
theorem dL_law_169 : decode cL_law 169 = .ok (.iadd, 1) := by decide +kernel
theorem dL_law_170 : decode cL_law 170 = .ok (.iaload, 1) := by decide +kernel
theorem dL_law_171 : decode cL_law 171 = .ok (.invokevirtual 17, 3) := by decide +kernel
theorem dL_law_174 : decode cL_law 174 = .ok (.if_icmp .eq 705, 3) := by decide +kernel
theorem dL_law_177 : decode cL_law 177 = .ok (.iconst 0, 1) := by decide +kernel
theorem dL_law_178 : decode cL_law 178 = .ok (.ireturn, 1) := by decide +kernel
theorem dL_law_179 : decode cL_law 179 = .ok (.aload_n 1, 1) := by decide +kernel
theorem dL_law_180 : decode cL_law 180 = .ok (.invokevirtual 18, 3) := by decide +kernel
theorem dL_law_183 : decode cL_law 183 = .ok (.aload_n 2, 1) := by decide +kernel
theorem dL_law_184 : decode cL_law 184 = .ok (.invokevirtual 22, 3) := by decide +kernel
theorem dL_law_187 : decode cL_law 187 = .ok (.if_icmp .eq 692, 3) := by decide +kernel
theorem dL_law_190 : decode cL_law 190 = .ok (.iconst 0, 1) := by decide +kernel
theorem dL_law_191 : decode cL_law 191 = .ok (.ireturn, 1) := by decide +kernel
theorem dL_law_192 : decode cL_law 192 = .ok (.aload_n 1, 1) := by decide +kernel
theorem dL_law_193 : decode cL_law 193 = .ok (.invokevirtual 23, 3) := by decide +kernel
theorem dL_law_196 : decode cL_law 196 = .ok (.aload_n 2, 1) := by decide +kernel
theorem dL_law_197 : decode cL_law 197 = .ok (.invokevirtual 26, 3) := by decide +kernel
theorem dL_law_200 : decode cL_law 200 = .ok (.if_icmp .eq 679, 3) := by decide +kernel
theorem dL_law_203 : decode cL_law 203 = .ok (.iconst 0, 1) := by decide +kernel
theorem dL_law_204 : decode cL_law 204 = .ok (.ireturn, 1) := by decide +kernel
theorem dL_law_205 : decode cL_law 205 = .ok (.aload_n 1, 1) := by decide +kernel
theorem dL_law_206 : decode cL_law 206 = .ok (.invokevirtual 27, 3) := by decide +kernel
theorem dL_law_209 : decode cL_law 209 = .ok (.aload_n 2, 1) := by decide +kernel
theorem dL_law_210 : decode cL_law 210 = .ok (.invokevirtual 30, 3) := by decide +kernel
theorem dL_law_213 : decode cL_law 213 = .ok (.if_icmp .eq 666, 3) := by decide +kernel
theorem dL_law_216 : decode cL_law 216 = .ok (.iconst 0, 1) := by decide +kernel
theorem dL_law_217 : decode cL_law 217 = .ok (.ireturn, 1) := by decide +kernel
theorem dL_law_218 : decode cL_law 218 = .ok (.aload_n 1, 1) := by decide +kernel
theorem dL_law_219 : decode cL_law 219 = .ok (.aload_n 0, 1) := by decide +kernel
theorem dL_law_220 : decode cL_law 220 = .ok (.iload_n 3, 1) := by decide +kernel
theorem dL_law_221 : decode cL_law 221 = .ok (.iconst 1, 1) := by decide +kernel
theorem dL_law_222 : decode cL_law 222 = .ok (.iadd, 1) := by decide +kernel
theorem dL_law_223 : decode cL_law 223 = .ok (.iaload, 1) := by decide +kernel
theorem dL_law_224 : decode cL_law 224 = .ok (.aload_n 0, 1) := by decide +kernel
theorem dL_law_225 : decode cL_law 225 = .ok (.iload_n 3, 1) := by decide +kernel
theorem dL_law_226 : decode cL_law 226 = .ok (.iconst 2, 1) := by decide +kernel
theorem dL_law_227 : decode cL_law 227 = .ok (.iadd, 1) := by decide +kernel
theorem dL_law_228 : decode cL_law 228 = .ok (.iaload, 1) := by decide +kernel
theorem dL_law_229 : decode cL_law 229 = .ok (.invokevirtual 31, 3) := by decide +kernel
theorem dL_law_232 : decode cL_law 232 = .ok (.aload_n 2, 1) := by decide +kernel
theorem dL_law_233 : decode cL_law 233 = .ok (.aload_n 0, 1) := by decide +kernel
theorem dL_law_234 : decode cL_law 234 = .ok (.iload_n 3, 1) := by decide +kernel
theorem dL_law_235 : decode cL_law 235 = .ok (.iconst 1, 1) := by decide +kernel
theorem dL_law_236 : decode cL_law 236 = .ok (.iadd, 1) := by decide +kernel
theorem dL_law_237 : decode cL_law 237 = .ok (.iaload, 1) := by decide +kernel
theorem dL_law_238 : decode cL_law 238 = .ok (.aload_n 0, 1) := by decide +kernel
theorem dL_law_239 : decode cL_law 239 = .ok (.iload_n 3, 1) := by decide +kernel
theorem dL_law_240 : decode cL_law 240 = .ok (.iconst 2, 1) := by decide +kernel
theorem dL_law_241 : decode cL_law 241 = .ok (.iadd, 1) := by decide +kernel
theorem dL_law_242 : decode cL_law 242 = .ok (.iaload, 1) := by decide +kernel
theorem dL_law_243 : decode cL_law 243 = .ok (.invokevirtual 35, 3) := by decide +kernel
theorem dL_law_246 : decode cL_law 246 = .ok (.if_icmp .eq 633, 3) := by decide +kernel
theorem dL_law_249 : decode cL_law 249 = .ok (.iconst 0, 1) := by decide +kernel
theorem dL_law_250 : decode cL_law 250 = .ok (.ireturn, 1) := by decide +kernel
theorem dL_law_251 : decode cL_law 251 = .ok (.aload_n 1, 1) := by decide +kernel
theorem dL_law_252 : decode cL_law 252 = .ok (.aload_n 0, 1) := by decide +kernel
theorem dL_law_253 : decode cL_law 253 = .ok (.iload_n 3, 1) := by decide +kernel
theorem dL_law_254 : decode cL_law 254 = .ok (.iconst 1, 1) := by decide +kernel
theorem dL_law_255 : decode cL_law 255 = .ok (.iadd, 1) := by decide +kernel
theorem dL_law_256 : decode cL_law 256 = .ok (.iaload, 1) := by decide +kernel
theorem dL_law_257 : decode cL_law 257 = .ok (.aload_n 0, 1) := by decide +kernel
theorem dL_law_258 : decode cL_law 258 = .ok (.iload_n 3, 1) := by decide +kernel
theorem dL_law_259 : decode cL_law 259 = .ok (.iconst 2, 1) := by decide +kernel
theorem dL_law_260 : decode cL_law 260 = .ok (.iadd, 1) := by decide +kernel
theorem dL_law_261 : decode cL_law 261 = .ok (.iaload, 1) := by decide +kernel
theorem dL_law_262 : decode cL_law 262 = .ok (.invokevirtual 36, 3) := by decide +kernel
theorem dL_law_265 : decode cL_law 265 = .ok (.aload_n 2, 1) := by decide +kernel
theorem dL_law_266 : decode cL_law 266 = .ok (.aload_n 0, 1) := by decide +kernel
theorem dL_law_267 : decode cL_law 267 = .ok (.iload_n 3, 1) := by decide +kernel
theorem dL_law_268 : decode cL_law 268 = .ok (.iconst 1, 1) := by decide +kernel
theorem dL_law_269 : decode cL_law 269 = .ok (.iadd, 1) := by decide +kernel
theorem dL_law_270 : decode cL_law 270 = .ok (.iaload, 1) := by decide +kernel
theorem dL_law_271 : decode cL_law 271 = .ok (.aload_n 0, 1) := by decide +kernel
theorem dL_law_272 : decode cL_law 272 = .ok (.iload_n 3, 1) := by decide +kernel
theorem dL_law_273 : decode cL_law 273 = .ok (.iconst 2, 1) := by decide +kernel
theorem dL_law_274 : decode cL_law 274 = .ok (.iadd, 1) := by decide +kernel
theorem dL_law_275 : decode cL_law 275 = .ok (.iaload, 1) := by decide +kernel
theorem dL_law_276 : decode cL_law 276 = .ok (.invokevirtual 39, 3) := by decide +kernel
theorem dL_law_279 : decode cL_law 279 = .ok (.if_icmp .eq 600, 3) := by decide +kernel
theorem dL_law_282 : decode cL_law 282 = .ok (.iconst 0, 1) := by decide +kernel
theorem dL_law_283 : decode cL_law 283 = .ok (.ireturn, 1) := by decide +kernel
theorem dL_law_284 : decode cL_law 284 = .ok (.aload_n 1, 1) := by decide +kernel
theorem dL_law_285 : decode cL_law 285 = .ok (.aload_n 0, 1) := by decide +kernel
theorem dL_law_286 : decode cL_law 286 = .ok (.iload_n 3, 1) := by decide +kernel
theorem dL_law_287 : decode cL_law 287 = .ok (.iconst 1, 1) := by decide +kernel
theorem dL_law_288 : decode cL_law 288 = .ok (.iadd, 1) := by decide +kernel
theorem dL_law_289 : decode cL_law 289 = .ok (.iaload, 1) := by decide +kernel
theorem dL_law_290 : decode cL_law 290 = .ok (.aload_n 0, 1) := by decide +kernel
theorem dL_law_291 : decode cL_law 291 = .ok (.iload_n 3, 1) := by decide +kernel
theorem dL_law_292 : decode cL_law 292 = .ok (.iconst 2, 1) := by decide +kernel
theorem dL_law_293 : decode cL_law 293 = .ok (.iadd, 1) := by decide +kernel
theorem dL_law_294 : decode cL_law 294 = .ok (.iaload, 1) := by decide +kernel
theorem dL_law_295 : decode cL_law 295 = .ok (.invokevirtual 40, 3) := by decide +kernel
theorem dL_law_298 : decode cL_law 298 = .ok (.aload_n 2, 1) := by decide +kernel
theorem dL_law_299 : decode cL_law 299 = .ok (.aload_n 0, 1) := by decide +kernel
theorem dL_law_300 : decode cL_law 300 = .ok (.iload_n 3, 1) := by decide +kernel
theorem dL_law_301 : decode cL_law 301 = .ok (.iconst 1, 1) := by decide +kernel
theorem dL_law_302 : decode cL_law 302 = .ok (.iadd, 1) := by decide +kernel
theorem dL_law_303 : decode cL_law 303 = .ok (.iaload, 1) := by decide +kernel
theorem dL_law_304 : decode cL_law 304 = .ok (.aload_n 0, 1) := by decide +kernel
theorem dL_law_305 : decode cL_law 305 = .ok (.iload_n 3, 1) := by decide +kernel
theorem dL_law_306 : decode cL_law 306 = .ok (.iconst 2, 1) := by decide +kernel
theorem dL_law_307 : decode cL_law 307 = .ok (.iadd, 1) := by decide +kernel
theorem dL_law_308 : decode cL_law 308 = .ok (.iaload, 1) := by decide +kernel
theorem dL_law_309 : decode cL_law 309 = .ok (.invokevirtual 43, 3) := by decide +kernel
theorem dL_law_312 : decode cL_law 312 = .ok (.if_icmp .eq 567, 3) := by decide +kernel
theorem dL_law_315 : decode cL_law 315 = .ok (.iconst 0, 1) := by decide +kernel
theorem dL_law_316 : decode cL_law 316 = .ok (.ireturn, 1) := by decide +kernel
theorem dL_law_317 : decode cL_law 317 = .ok (.aload_n 1, 1) := by decide +kernel
theorem dL_law_318 : decode cL_law 318 = .ok (.aload_n 0, 1) := by decide +kernel
theorem dL_law_319 : decode cL_law 319 = .ok (.iload_n 3, 1) := by decide +kernel
theorem dL_law_320 : decode cL_law 320 = .ok (.iconst 1, 1) := by decide +kernel
theorem dL_law_321 : decode cL_law 321 = .ok (.iadd, 1) := by decide +kernel
theorem dL_law_322 : decode cL_law 322 = .ok (.iaload, 1) := by decide +kernel
theorem dL_law_323 : decode cL_law 323 = .ok (.aload_n 0, 1) := by decide +kernel
theorem dL_law_324 : decode cL_law 324 = .ok (.iload_n 3, 1) := by decide +kernel
theorem dL_law_325 : decode cL_law 325 = .ok (.iconst 2, 1) := by decide +kernel
theorem dL_law_326 : decode cL_law 326 = .ok (.iadd, 1) := by decide +kernel
theorem dL_law_327 : decode cL_law 327 = .ok (.iaload, 1) := by decide +kernel
theorem dL_law_328 : decode cL_law 328 = .ok (.invokevirtual 44, 3) := by decide +kernel
theorem dL_law_331 : decode cL_law 331 = .ok (.aload_n 2, 1) := by decide +kernel
theorem dL_law_332 : decode cL_law 332 = .ok (.aload_n 0, 1) := by decide +kernel
theorem dL_law_333 : decode cL_law 333 = .ok (.iload_n 3, 1) := by decide +kernel
theorem dL_law_334 : decode cL_law 334 = .ok (.iconst 1, 1) := by decide +kernel
theorem dL_law_335 : decode cL_law 335 = .ok (.iadd, 1) := by decide +kernel
theorem dL_law_336 : decode cL_law 336 = .ok (.iaload, 1) := by decide +kernel
theorem dL_law_337 : decode cL_law 337 = .ok (.aload_n 0, 1) := by decide +kernel
theorem dL_law_338 : decode cL_law 338 = .ok (.iload_n 3, 1) := by decide +kernel
theorem dL_law_339 : decode cL_law 339 = .ok (.iconst 2, 1) := by decide +kernel
theorem dL_law_340 : decode cL_law 340 = .ok (.iadd, 1) := by decide +kernel
theorem dL_law_341 : decode cL_law 341 = .ok (.iaload, 1) := by decide +kernel
theorem dL_law_342 : decode cL_law 342 = .ok (.invokevirtual 47, 3) := by decide +kernel
theorem dL_law_345 : decode cL_law 345 = .ok (.if_icmp .eq 534, 3) := by decide +kernel
theorem dL_law_348 : decode cL_law 348 = .ok (.iconst 0, 1) := by decide +kernel
theorem dL_law_349 : decode cL_law 349 = .ok (.ireturn, 1) := by decide +kernel
theorem dL_law_350 : decode cL_law 350 = .ok (.aload_n 1, 1) := by decide +kernel
theorem dL_law_351 : decode cL_law 351 = .ok (.aload_n 0, 1) := by decide +kernel
theorem dL_law_352 : decode cL_law 352 = .ok (.iload_n 3, 1) := by decide +kernel
theorem dL_law_353 : decode cL_law 353 = .ok (.iconst 1, 1) := by decide +kernel
theorem dL_law_354 : decode cL_law 354 = .ok (.iadd, 1) := by decide +kernel
theorem dL_law_355 : decode cL_law 355 = .ok (.iaload, 1) := by decide +kernel
theorem dL_law_356 : decode cL_law 356 = .ok (.aload_n 0, 1) := by decide +kernel
theorem dL_law_357 : decode cL_law 357 = .ok (.iload_n 3, 1) := by decide +kernel
theorem dL_law_358 : decode cL_law 358 = .ok (.iconst 2, 1) := by decide +kernel
theorem dL_law_359 : decode cL_law 359 = .ok (.iadd, 1) := by decide +kernel
theorem dL_law_360 : decode cL_law 360 = .ok (.iaload, 1) := by decide +kernel
theorem dL_law_361 : decode cL_law 361 = .ok (.aload_n 0, 1) := by decide +kernel
theorem dL_law_362 : decode cL_law 362 = .ok (.iload_n 3, 1) := by decide +kernel
theorem dL_law_363 : decode cL_law 363 = .ok (.iconst 3, 1) := by decide +kernel
theorem dL_law_364 : decode cL_law 364 = .ok (.iadd, 1) := by decide +kernel
theorem dL_law_365 : decode cL_law 365 = .ok (.iaload, 1) := by decide +kernel
theorem dL_law_366 : decode cL_law 366 = .ok (.invokevirtual 48, 3) := by decide +kernel
theorem dL_law_369 : decode cL_law 369 = .ok (.aload_n 2, 1) := by decide +kernel
theorem dL_law_370 : decode cL_law 370 = .ok (.aload_n 0, 1) := by decide +kernel
theorem dL_law_371 : decode cL_law 371 = .ok (.iload_n 3, 1) := by decide +kernel
theorem dL_law_372 : decode cL_law 372 = .ok (.iconst 1, 1) := by decide +kernel
theorem dL_law_373 : decode cL_law 373 = .ok (.iadd, 1) := by decide +kernel
theorem dL_law_374 : decode cL_law 374 = .ok (.iaload, 1) := by decide +kernel
theorem dL_law_375 : decode cL_law 375 = .ok (.aload_n 0, 1) := by decide +kernel
theorem dL_law_376 : decode cL_law 376 = .ok (.iload_n 3, 1) := by decide +kernel
theorem dL_law_377 : decode cL_law 377 = .ok (.iconst 2, 1) := by decide +kernel
theorem dL_law_378 : decode cL_law 378 = .ok (.iadd, 1) := by decide +kernel
theorem dL_law_379 : decode cL_law 379 = .ok (.iaload, 1) := by decide +kernel
theorem dL_law_380 : decode cL_law 380 = .ok (.aload_n 0, 1) := by decide +kernel
theorem dL_law_381 : decode cL_law 381 = .ok (.iload_n 3, 1) := by decide +kernel
theorem dL_law_382 : decode cL_law 382 = .ok (.iconst 3, 1) := by decide +kernel
theorem dL_law_383 : decode cL_law 383 = .ok (.iadd, 1) := by decide +kernel
theorem dL_law_384 : decode cL_law 384 = .ok (.iaload, 1) := by decide +kernel
theorem dL_law_385 : decode cL_law 385 = .ok (.invokevirtual 52, 3) := by decide +kernel
theorem dL_law_388 : decode cL_law 388 = .ok (.if_icmp .eq 491, 3) := by decide +kernel
theorem dL_law_391 : decode cL_law 391 = .ok (.iconst 0, 1) := by decide +kernel
theorem dL_law_392 : decode cL_law 392 = .ok (.ireturn, 1) := by decide +kernel
theorem dL_law_393 : decode cL_law 393 = .ok (.aload_n 1, 1) := by decide +kernel
theorem dL_law_394 : decode cL_law 394 = .ok (.aload_n 0, 1) := by decide +kernel
theorem dL_law_395 : decode cL_law 395 = .ok (.iload_n 3, 1) := by decide +kernel
theorem dL_law_396 : decode cL_law 396 = .ok (.iconst 1, 1) := by decide +kernel
theorem dL_law_397 : decode cL_law 397 = .ok (.iadd, 1) := by decide +kernel
theorem dL_law_398 : decode cL_law 398 = .ok (.iaload, 1) := by decide +kernel
theorem dL_law_399 : decode cL_law 399 = .ok (.aload_n 0, 1) := by decide +kernel
theorem dL_law_400 : decode cL_law 400 = .ok (.iload_n 3, 1) := by decide +kernel
theorem dL_law_401 : decode cL_law 401 = .ok (.iconst 2, 1) := by decide +kernel
theorem dL_law_402 : decode cL_law 402 = .ok (.iadd, 1) := by decide +kernel
theorem dL_law_403 : decode cL_law 403 = .ok (.iaload, 1) := by decide +kernel
theorem dL_law_404 : decode cL_law 404 = .ok (.aload_n 0, 1) := by decide +kernel
theorem dL_law_405 : decode cL_law 405 = .ok (.iload_n 3, 1) := by decide +kernel
theorem dL_law_406 : decode cL_law 406 = .ok (.iconst 3, 1) := by decide +kernel
theorem dL_law_407 : decode cL_law 407 = .ok (.iadd, 1) := by decide +kernel
theorem dL_law_408 : decode cL_law 408 = .ok (.iaload, 1) := by decide +kernel
theorem dL_law_409 : decode cL_law 409 = .ok (.invokevirtual 53, 3) := by decide +kernel
theorem dL_law_412 : decode cL_law 412 = .ok (.aload_n 2, 1) := by decide +kernel
theorem dL_law_413 : decode cL_law 413 = .ok (.aload_n 0, 1) := by decide +kernel
theorem dL_law_414 : decode cL_law 414 = .ok (.iload_n 3, 1) := by decide +kernel
theorem dL_law_415 : decode cL_law 415 = .ok (.iconst 1, 1) := by decide +kernel
theorem dL_law_416 : decode cL_law 416 = .ok (.iadd, 1) := by decide +kernel
theorem dL_law_417 : decode cL_law 417 = .ok (.iaload, 1) := by decide +kernel
theorem dL_law_418 : decode cL_law 418 = .ok (.aload_n 0, 1) := by decide +kernel
theorem dL_law_419 : decode cL_law 419 = .ok (.iload_n 3, 1) := by decide +kernel
theorem dL_law_420 : decode cL_law 420 = .ok (.iconst 2, 1) := by decide +kernel
theorem dL_law_421 : decode cL_law 421 = .ok (.iadd, 1) := by decide +kernel
theorem dL_law_422 : decode cL_law 422 = .ok (.iaload, 1) := by decide +kernel
theorem dL_law_423 : decode cL_law 423 = .ok (.aload_n 0, 1) := by decide +kernel
theorem dL_law_424 : decode cL_law 424 = .ok (.iload_n 3, 1) := by decide +kernel
theorem dL_law_425 : decode cL_law 425 = .ok (.iconst 3, 1) := by decide +kernel
theorem dL_law_426 : decode cL_law 426 = .ok (.iadd, 1) := by decide +kernel
theorem dL_law_427 : decode cL_law 427 = .ok (.iaload, 1) := by decide +kernel
theorem dL_law_428 : decode cL_law 428 = .ok (.invokevirtual 56, 3) := by decide +kernel
theorem dL_law_431 : decode cL_law 431 = .ok (.if_icmp .eq 448, 3) := by decide +kernel
theorem dL_law_434 : decode cL_law 434 = .ok (.iconst 0, 1) := by decide +kernel
theorem dL_law_435 : decode cL_law 435 = .ok (.ireturn, 1) := by decide +kernel
theorem dL_law_436 : decode cL_law 436 = .ok (.aload_n 1, 1) := by decide +kernel
theorem dL_law_437 : decode cL_law 437 = .ok (.aload_n 0, 1) := by decide +kernel
theorem dL_law_438 : decode cL_law 438 = .ok (.iload_n 3, 1) := by decide +kernel
theorem dL_law_439 : decode cL_law 439 = .ok (.iconst 1, 1) := by decide +kernel
theorem dL_law_440 : decode cL_law 440 = .ok (.iadd, 1) := by decide +kernel
theorem dL_law_441 : decode cL_law 441 = .ok (.iaload, 1) := by decide +kernel
theorem dL_law_442 : decode cL_law 442 = .ok (.invokevirtual 57, 3) := by decide +kernel
theorem dL_law_445 : decode cL_law 445 = .ok (.aload_n 2, 1) := by decide +kernel
theorem dL_law_446 : decode cL_law 446 = .ok (.aload_n 0, 1) := by decide +kernel
theorem dL_law_447 : decode cL_law 447 = .ok (.iload_n 3, 1) := by decide +kernel
theorem dL_law_448 : decode cL_law 448 = .ok (.iconst 1, 1) := by decide +kernel
theorem dL_law_449 : decode cL_law 449 = .ok (.iadd, 1) := by decide +kernel
theorem dL_law_450 : decode cL_law 450 = .ok (.iaload, 1) := by decide +kernel
theorem dL_law_451 : decode cL_law 451 = .ok (.invokevirtual 60, 3) := by decide +kernel
theorem dL_law_454 : decode cL_law 454 = .ok (.if_icmp .eq 425, 3) := by decide +kernel
theorem dL_law_457 : decode cL_law 457 = .ok (.iconst 0, 1) := by decide +kernel
theorem dL_law_458 : decode cL_law 458 = .ok (.ireturn, 1) := by decide +kernel
theorem dL_law_459 : decode cL_law 459 = .ok (.aload_n 1, 1) := by decide +kernel
theorem dL_law_460 : decode cL_law 460 = .ok (.aload_n 0, 1) := by decide +kernel
theorem dL_law_461 : decode cL_law 461 = .ok (.iload_n 3, 1) := by decide +kernel
theorem dL_law_462 : decode cL_law 462 = .ok (.iconst 1, 1) := by decide +kernel
theorem dL_law_463 : decode cL_law 463 = .ok (.iadd, 1) := by decide +kernel
theorem dL_law_464 : decode cL_law 464 = .ok (.iaload, 1) := by decide +kernel
theorem dL_law_465 : decode cL_law 465 = .ok (.invokevirtual 61, 3) := by decide +kernel
theorem dL_law_468 : decode cL_law 468 = .ok (.aload_n 2, 1) := by decide +kernel
theorem dL_law_469 : decode cL_law 469 = .ok (.aload_n 0, 1) := by decide +kernel
theorem dL_law_470 : decode cL_law 470 = .ok (.iload_n 3, 1) := by decide +kernel
theorem dL_law_471 : decode cL_law 471 = .ok (.iconst 1, 1) := by decide +kernel
theorem dL_law_472 : decode cL_law 472 = .ok (.iadd, 1) := by decide +kernel
theorem dL_law_473 : decode cL_law 473 = .ok (.iaload, 1) := by decide +kernel
theorem dL_law_474 : decode cL_law 474 = .ok (.invokevirtual 64, 3) := by decide +kernel
theorem dL_law_477 : decode cL_law 477 = .ok (.if_icmp .eq 402, 3) := by decide +kernel
theorem dL_law_480 : decode cL_law 480 = .ok (.iconst 0, 1) := by decide +kernel
theorem dL_law_481 : decode cL_law 481 = .ok (.ireturn, 1) := by decide +kernel
theorem dL_law_482 : decode cL_law 482 = .ok (.aload_n 1, 1) := by decide +kernel
theorem dL_law_483 : decode cL_law 483 = .ok (.aload_n 0, 1) := by decide +kernel
theorem dL_law_484 : decode cL_law 484 = .ok (.iload_n 3, 1) := by decide +kernel
theorem dL_law_485 : decode cL_law 485 = .ok (.iconst 1, 1) := by decide +kernel
theorem dL_law_486 : decode cL_law 486 = .ok (.iadd, 1) := by decide +kernel
theorem dL_law_487 : decode cL_law 487 = .ok (.iaload, 1) := by decide +kernel
theorem dL_law_488 : decode cL_law 488 = .ok (.aload_n 0, 1) := by decide +kernel
theorem dL_law_489 : decode cL_law 489 = .ok (.iload_n 3, 1) := by decide +kernel
theorem dL_law_490 : decode cL_law 490 = .ok (.iconst 2, 1) := by decide +kernel
theorem dL_law_491 : decode cL_law 491 = .ok (.iadd, 1) := by decide +kernel
theorem dL_law_492 : decode cL_law 492 = .ok (.iaload, 1) := by decide +kernel
theorem dL_law_493 : decode cL_law 493 = .ok (.invokevirtual 65, 3) := by decide +kernel
theorem dL_law_496 : decode cL_law 496 = .ok (.aload_n 2, 1) := by decide +kernel
theorem dL_law_497 : decode cL_law 497 = .ok (.aload_n 0, 1) := by decide +kernel
theorem dL_law_498 : decode cL_law 498 = .ok (.iload_n 3, 1) := by decide +kernel
theorem dL_law_499 : decode cL_law 499 = .ok (.iconst 1, 1) := by decide +kernel
theorem dL_law_500 : decode cL_law 500 = .ok (.iadd, 1) := by decide +kernel
theorem dL_law_501 : decode cL_law 501 = .ok (.iaload, 1) := by decide +kernel
theorem dL_law_502 : decode cL_law 502 = .ok (.aload_n 0, 1) := by decide +kernel
theorem dL_law_503 : decode cL_law 503 = .ok (.iload_n 3, 1) := by decide +kernel
theorem dL_law_504 : decode cL_law 504 = .ok (.iconst 2, 1) := by decide +kernel
theorem dL_law_505 : decode cL_law 505 = .ok (.iadd, 1) := by decide +kernel
theorem dL_law_506 : decode cL_law 506 = .ok (.iaload, 1) := by decide +kernel
theorem dL_law_507 : decode cL_law 507 = .ok (.invokevirtual 68, 3) := by decide +kernel
theorem dL_law_510 : decode cL_law 510 = .ok (.if_icmp .eq 369, 3) := by decide +kernel
theorem dL_law_513 : decode cL_law 513 = .ok (.iconst 0, 1) := by decide +kernel
theorem dL_law_514 : decode cL_law 514 = .ok (.ireturn, 1) := by decide +kernel
theorem dL_law_515 : decode cL_law 515 = .ok (.aload_n 1, 1) := by decide +kernel
theorem dL_law_516 : decode cL_law 516 = .ok (.aload_n 0, 1) := by decide +kernel
theorem dL_law_517 : decode cL_law 517 = .ok (.iload_n 3, 1) := by decide +kernel
theorem dL_law_518 : decode cL_law 518 = .ok (.iconst 1, 1) := by decide +kernel
theorem dL_law_519 : decode cL_law 519 = .ok (.iadd, 1) := by decide +kernel
theorem dL_law_520 : decode cL_law 520 = .ok (.iaload, 1) := by decide +kernel
theorem dL_law_521 : decode cL_law 521 = .ok (.aload_n 0, 1) := by decide +kernel
theorem dL_law_522 : decode cL_law 522 = .ok (.iload_n 3, 1) := by decide +kernel
theorem dL_law_523 : decode cL_law 523 = .ok (.iconst 2, 1) := by decide +kernel
theorem dL_law_524 : decode cL_law 524 = .ok (.iadd, 1) := by decide +kernel
theorem dL_law_525 : decode cL_law 525 = .ok (.iaload, 1) := by decide +kernel
theorem dL_law_526 : decode cL_law 526 = .ok (.invokevirtual 69, 3) := by decide +kernel
theorem dL_law_529 : decode cL_law 529 = .ok (.aload_n 2, 1) := by decide +kernel
theorem dL_law_530 : decode cL_law 530 = .ok (.aload_n 0, 1) := by decide +kernel
theorem dL_law_531 : decode cL_law 531 = .ok (.iload_n 3, 1) := by decide +kernel
theorem dL_law_532 : decode cL_law 532 = .ok (.iconst 1, 1) := by decide +kernel
theorem dL_law_533 : decode cL_law 533 = .ok (.iadd, 1) := by decide +kernel
theorem dL_law_534 : decode cL_law 534 = .ok (.iaload, 1) := by decide +kernel
theorem dL_law_535 : decode cL_law 535 = .ok (.aload_n 0, 1) := by decide +kernel
theorem dL_law_536 : decode cL_law 536 = .ok (.iload_n 3, 1) := by decide +kernel
theorem dL_law_537 : decode cL_law 537 = .ok (.iconst 2, 1) := by decide +kernel
theorem dL_law_538 : decode cL_law 538 = .ok (.iadd, 1) := by decide +kernel
theorem dL_law_539 : decode cL_law 539 = .ok (.iaload, 1) := by decide +kernel
theorem dL_law_540 : decode cL_law 540 = .ok (.invokevirtual 72, 3) := by decide +kernel
theorem dL_law_543 : decode cL_law 543 = .ok (.if_icmp .eq 336, 3) := by decide +kernel
theorem dL_law_546 : decode cL_law 546 = .ok (.iconst 0, 1) := by decide +kernel
theorem dL_law_547 : decode cL_law 547 = .ok (.ireturn, 1) := by decide +kernel
theorem dL_law_548 : decode cL_law 548 = .ok (.aload_n 1, 1) := by decide +kernel
theorem dL_law_549 : decode cL_law 549 = .ok (.invokevirtual 73, 3) := by decide +kernel
theorem dL_law_552 : decode cL_law 552 = .ok (.aload_n 2, 1) := by decide +kernel
theorem dL_law_553 : decode cL_law 553 = .ok (.invokevirtual 76, 3) := by decide +kernel
theorem dL_law_556 : decode cL_law 556 = .ok (.if_icmp .eq 323, 3) := by decide +kernel
theorem dL_law_559 : decode cL_law 559 = .ok (.iconst 0, 1) := by decide +kernel
theorem dL_law_560 : decode cL_law 560 = .ok (.ireturn, 1) := by decide +kernel
theorem dL_law_561 : decode cL_law 561 = .ok (.aload_n 1, 1) := by decide +kernel
theorem dL_law_562 : decode cL_law 562 = .ok (.aload_n 0, 1) := by decide +kernel
theorem dL_law_563 : decode cL_law 563 = .ok (.iload_n 3, 1) := by decide +kernel
theorem dL_law_564 : decode cL_law 564 = .ok (.iconst 1, 1) := by decide +kernel
theorem dL_law_565 : decode cL_law 565 = .ok (.iadd, 1) := by decide +kernel
theorem dL_law_566 : decode cL_law 566 = .ok (.iaload, 1) := by decide +kernel
theorem dL_law_567 : decode cL_law 567 = .ok (.aload_n 0, 1) := by decide +kernel
theorem dL_law_568 : decode cL_law 568 = .ok (.iload_n 3, 1) := by decide +kernel
theorem dL_law_569 : decode cL_law 569 = .ok (.iconst 2, 1) := by decide +kernel
theorem dL_law_570 : decode cL_law 570 = .ok (.iadd, 1) := by decide +kernel
theorem dL_law_571 : decode cL_law 571 = .ok (.iaload, 1) := by decide +kernel
theorem dL_law_572 : decode cL_law 572 = .ok (.aload_n 0, 1) := by decide +kernel
theorem dL_law_573 : decode cL_law 573 = .ok (.iload_n 3, 1) := by decide +kernel
theorem dL_law_574 : decode cL_law 574 = .ok (.iconst 3, 1) := by decide +kernel
theorem dL_law_575 : decode cL_law 575 = .ok (.iadd, 1) := by decide +kernel
theorem dL_law_576 : decode cL_law 576 = .ok (.iaload, 1) := by decide +kernel
theorem dL_law_577 : decode cL_law 577 = .ok (.invokevirtual 77, 3) := by decide +kernel
theorem dL_law_580 : decode cL_law 580 = .ok (.aload_n 2, 1) := by decide +kernel
theorem dL_law_581 : decode cL_law 581 = .ok (.aload_n 0, 1) := by decide +kernel
theorem dL_law_582 : decode cL_law 582 = .ok (.iload_n 3, 1) := by decide +kernel
theorem dL_law_583 : decode cL_law 583 = .ok (.iconst 1, 1) := by decide +kernel
theorem dL_law_584 : decode cL_law 584 = .ok (.iadd, 1) := by decide +kernel
theorem dL_law_585 : decode cL_law 585 = .ok (.iaload, 1) := by decide +kernel
theorem dL_law_586 : decode cL_law 586 = .ok (.aload_n 0, 1) := by decide +kernel
theorem dL_law_587 : decode cL_law 587 = .ok (.iload_n 3, 1) := by decide +kernel
theorem dL_law_588 : decode cL_law 588 = .ok (.iconst 2, 1) := by decide +kernel
theorem dL_law_589 : decode cL_law 589 = .ok (.iadd, 1) := by decide +kernel
theorem dL_law_590 : decode cL_law 590 = .ok (.iaload, 1) := by decide +kernel
theorem dL_law_591 : decode cL_law 591 = .ok (.aload_n 0, 1) := by decide +kernel
theorem dL_law_592 : decode cL_law 592 = .ok (.iload_n 3, 1) := by decide +kernel
theorem dL_law_593 : decode cL_law 593 = .ok (.iconst 3, 1) := by decide +kernel
theorem dL_law_594 : decode cL_law 594 = .ok (.iadd, 1) := by decide +kernel
theorem dL_law_595 : decode cL_law 595 = .ok (.iaload, 1) := by decide +kernel
theorem dL_law_596 : decode cL_law 596 = .ok (.invokevirtual 80, 3) := by decide +kernel
theorem dL_law_599 : decode cL_law 599 = .ok (.if_icmp .eq 280, 3) := by decide +kernel
theorem dL_law_602 : decode cL_law 602 = .ok (.iconst 0, 1) := by decide +kernel
theorem dL_law_603 : decode cL_law 603 = .ok (.ireturn, 1) := by decide +kernel
theorem dL_law_604 : decode cL_law 604 = .ok (.aload_n 1, 1) := by decide +kernel
theorem dL_law_605 : decode cL_law 605 = .ok (.aload_n 0, 1) := by decide +kernel
theorem dL_law_606 : decode cL_law 606 = .ok (.iload_n 3, 1) := by decide +kernel
theorem dL_law_607 : decode cL_law 607 = .ok (.iconst 1, 1) := by decide +kernel
theorem dL_law_608 : decode cL_law 608 = .ok (.iadd, 1) := by decide +kernel
theorem dL_law_609 : decode cL_law 609 = .ok (.iaload, 1) := by decide +kernel
theorem dL_law_610 : decode cL_law 610 = .ok (.invokevirtual 81, 3) := by decide +kernel
theorem dL_law_613 : decode cL_law 613 = .ok (.aload_n 2, 1) := by decide +kernel
theorem dL_law_614 : decode cL_law 614 = .ok (.aload_n 0, 1) := by decide +kernel
theorem dL_law_615 : decode cL_law 615 = .ok (.iload_n 3, 1) := by decide +kernel
theorem dL_law_616 : decode cL_law 616 = .ok (.iconst 1, 1) := by decide +kernel
theorem dL_law_617 : decode cL_law 617 = .ok (.iadd, 1) := by decide +kernel
theorem dL_law_618 : decode cL_law 618 = .ok (.iaload, 1) := by decide +kernel
theorem dL_law_619 : decode cL_law 619 = .ok (.invokevirtual 84, 3) := by decide +kernel
theorem dL_law_622 : decode cL_law 622 = .ok (.if_icmp .eq 257, 3) := by decide +kernel
theorem dL_law_625 : decode cL_law 625 = .ok (.iconst 0, 1) := by decide +kernel
theorem dL_law_626 : decode cL_law 626 = .ok (.ireturn, 1) := by decide +kernel
theorem dL_law_627 : decode cL_law 627 = .ok (.aload_n 1, 1) := by decide +kernel
theorem dL_law_628 : decode cL_law 628 = .ok (.aload_n 0, 1) := by decide +kernel
theorem dL_law_629 : decode cL_law 629 = .ok (.iload_n 3, 1) := by decide +kernel
theorem dL_law_630 : decode cL_law 630 = .ok (.iconst 1, 1) := by decide +kernel
theorem dL_law_631 : decode cL_law 631 = .ok (.iadd, 1) := by decide +kernel
theorem dL_law_632 : decode cL_law 632 = .ok (.iaload, 1) := by decide +kernel
theorem dL_law_633 : decode cL_law 633 = .ok (.aload_n 0, 1) := by decide +kernel
theorem dL_law_634 : decode cL_law 634 = .ok (.iload_n 3, 1) := by decide +kernel
theorem dL_law_635 : decode cL_law 635 = .ok (.iconst 2, 1) := by decide +kernel
theorem dL_law_636 : decode cL_law 636 = .ok (.iadd, 1) := by decide +kernel
theorem dL_law_637 : decode cL_law 637 = .ok (.iaload, 1) := by decide +kernel
theorem dL_law_638 : decode cL_law 638 = .ok (.invokevirtual 85, 3) := by decide +kernel
theorem dL_law_641 : decode cL_law 641 = .ok (.aload_n 2, 1) := by decide +kernel
theorem dL_law_642 : decode cL_law 642 = .ok (.aload_n 0, 1) := by decide +kernel
theorem dL_law_643 : decode cL_law 643 = .ok (.iload_n 3, 1) := by decide +kernel
theorem dL_law_644 : decode cL_law 644 = .ok (.iconst 1, 1) := by decide +kernel
theorem dL_law_645 : decode cL_law 645 = .ok (.iadd, 1) := by decide +kernel
theorem dL_law_646 : decode cL_law 646 = .ok (.iaload, 1) := by decide +kernel
theorem dL_law_647 : decode cL_law 647 = .ok (.aload_n 0, 1) := by decide +kernel
theorem dL_law_648 : decode cL_law 648 = .ok (.iload_n 3, 1) := by decide +kernel
theorem dL_law_649 : decode cL_law 649 = .ok (.iconst 2, 1) := by decide +kernel
theorem dL_law_650 : decode cL_law 650 = .ok (.iadd, 1) := by decide +kernel
theorem dL_law_651 : decode cL_law 651 = .ok (.iaload, 1) := by decide +kernel
theorem dL_law_652 : decode cL_law 652 = .ok (.invokevirtual 88, 3) := by decide +kernel
theorem dL_law_655 : decode cL_law 655 = .ok (.if_icmp .eq 224, 3) := by decide +kernel
theorem dL_law_658 : decode cL_law 658 = .ok (.iconst 0, 1) := by decide +kernel
theorem dL_law_659 : decode cL_law 659 = .ok (.ireturn, 1) := by decide +kernel
theorem dL_law_660 : decode cL_law 660 = .ok (.aload_n 1, 1) := by decide +kernel
theorem dL_law_661 : decode cL_law 661 = .ok (.aload_n 0, 1) := by decide +kernel
theorem dL_law_662 : decode cL_law 662 = .ok (.iload_n 3, 1) := by decide +kernel
theorem dL_law_663 : decode cL_law 663 = .ok (.iconst 1, 1) := by decide +kernel
theorem dL_law_664 : decode cL_law 664 = .ok (.iadd, 1) := by decide +kernel
theorem dL_law_665 : decode cL_law 665 = .ok (.iaload, 1) := by decide +kernel
theorem dL_law_666 : decode cL_law 666 = .ok (.aload_n 0, 1) := by decide +kernel
theorem dL_law_667 : decode cL_law 667 = .ok (.iload_n 3, 1) := by decide +kernel
theorem dL_law_668 : decode cL_law 668 = .ok (.iconst 2, 1) := by decide +kernel
theorem dL_law_669 : decode cL_law 669 = .ok (.iadd, 1) := by decide +kernel
theorem dL_law_670 : decode cL_law 670 = .ok (.iaload, 1) := by decide +kernel
theorem dL_law_671 : decode cL_law 671 = .ok (.aload_n 0, 1) := by decide +kernel
theorem dL_law_672 : decode cL_law 672 = .ok (.iload_n 3, 1) := by decide +kernel
theorem dL_law_673 : decode cL_law 673 = .ok (.iconst 3, 1) := by decide +kernel
theorem dL_law_674 : decode cL_law 674 = .ok (.iadd, 1) := by decide +kernel
theorem dL_law_675 : decode cL_law 675 = .ok (.iaload, 1) := by decide +kernel
theorem dL_law_676 : decode cL_law 676 = .ok (.invokevirtual 89, 3) := by decide +kernel
theorem dL_law_679 : decode cL_law 679 = .ok (.aload_n 2, 1) := by decide +kernel
theorem dL_law_680 : decode cL_law 680 = .ok (.aload_n 0, 1) := by decide +kernel
theorem dL_law_681 : decode cL_law 681 = .ok (.iload_n 3, 1) := by decide +kernel
theorem dL_law_682 : decode cL_law 682 = .ok (.iconst 1, 1) := by decide +kernel
theorem dL_law_683 : decode cL_law 683 = .ok (.iadd, 1) := by decide +kernel
theorem dL_law_684 : decode cL_law 684 = .ok (.iaload, 1) := by decide +kernel
theorem dL_law_685 : decode cL_law 685 = .ok (.aload_n 0, 1) := by decide +kernel
theorem dL_law_686 : decode cL_law 686 = .ok (.iload_n 3, 1) := by decide +kernel
theorem dL_law_687 : decode cL_law 687 = .ok (.iconst 2, 1) := by decide +kernel
theorem dL_law_688 : decode cL_law 688 = .ok (.iadd, 1) := by decide +kernel
theorem dL_law_689 : decode cL_law 689 = .ok (.iaload, 1) := by decide +kernel
theorem dL_law_690 : decode cL_law 690 = .ok (.aload_n 0, 1) := by decide +kernel
theorem dL_law_691 : decode cL_law 691 = .ok (.iload_n 3, 1) := by decide +kernel
theorem dL_law_692 : decode cL_law 692 = .ok (.iconst 3, 1) := by decide +kernel
theorem dL_law_693 : decode cL_law 693 = .ok (.iadd, 1) := by decide +kernel
theorem dL_law_694 : decode cL_law 694 = .ok (.iaload, 1) := by decide +kernel
theorem dL_law_695 : decode cL_law 695 = .ok (.invokevirtual 93, 3) := by decide +kernel
theorem dL_law_698 : decode cL_law 698 = .ok (.lcmp, 1) := by decide +kernel
theorem dL_law_699 : decode cL_law 699 = .ok (.ifCond .eq 180, 3) := by decide +kernel
theorem dL_law_702 : decode cL_law 702 = .ok (.iconst 0, 1) := by decide +kernel
theorem dL_law_703 : decode cL_law 703 = .ok (.ireturn, 1) := by decide +kernel
theorem dL_law_704 : decode cL_law 704 = .ok (.aload_n 1, 1) := by decide +kernel
theorem dL_law_705 : decode cL_law 705 = .ok (.aload_n 0, 1) := by decide +kernel
theorem dL_law_706 : decode cL_law 706 = .ok (.iload_n 3, 1) := by decide +kernel
theorem dL_law_707 : decode cL_law 707 = .ok (.iconst 1, 1) := by decide +kernel
theorem dL_law_708 : decode cL_law 708 = .ok (.iadd, 1) := by decide +kernel
theorem dL_law_709 : decode cL_law 709 = .ok (.iaload, 1) := by decide +kernel
theorem dL_law_710 : decode cL_law 710 = .ok (.aload_n 0, 1) := by decide +kernel
theorem dL_law_711 : decode cL_law 711 = .ok (.iload_n 3, 1) := by decide +kernel
theorem dL_law_712 : decode cL_law 712 = .ok (.iconst 2, 1) := by decide +kernel
theorem dL_law_713 : decode cL_law 713 = .ok (.iadd, 1) := by decide +kernel
theorem dL_law_714 : decode cL_law 714 = .ok (.iaload, 1) := by decide +kernel
theorem dL_law_715 : decode cL_law 715 = .ok (.invokevirtual 94, 3) := by decide +kernel
theorem dL_law_718 : decode cL_law 718 = .ok (.aload_n 2, 1) := by decide +kernel
theorem dL_law_719 : decode cL_law 719 = .ok (.aload_n 0, 1) := by decide +kernel
theorem dL_law_720 : decode cL_law 720 = .ok (.iload_n 3, 1) := by decide +kernel
theorem dL_law_721 : decode cL_law 721 = .ok (.iconst 1, 1) := by decide +kernel
theorem dL_law_722 : decode cL_law 722 = .ok (.iadd, 1) := by decide +kernel
theorem dL_law_723 : decode cL_law 723 = .ok (.iaload, 1) := by decide +kernel
theorem dL_law_724 : decode cL_law 724 = .ok (.aload_n 0, 1) := by decide +kernel
theorem dL_law_725 : decode cL_law 725 = .ok (.iload_n 3, 1) := by decide +kernel
theorem dL_law_726 : decode cL_law 726 = .ok (.iconst 2, 1) := by decide +kernel
theorem dL_law_727 : decode cL_law 727 = .ok (.iadd, 1) := by decide +kernel
theorem dL_law_728 : decode cL_law 728 = .ok (.iaload, 1) := by decide +kernel
theorem dL_law_729 : decode cL_law 729 = .ok (.invokevirtual 97, 3) := by decide +kernel
theorem dL_law_732 : decode cL_law 732 = .ok (.if_icmp .eq 147, 3) := by decide +kernel
theorem dL_law_735 : decode cL_law 735 = .ok (.iconst 0, 1) := by decide +kernel
theorem dL_law_736 : decode cL_law 736 = .ok (.ireturn, 1) := by decide +kernel
theorem dL_law_737 : decode cL_law 737 = .ok (.aload_n 1, 1) := by decide +kernel
theorem dL_law_738 : decode cL_law 738 = .ok (.invokevirtual 98, 3) := by decide +kernel
theorem dL_law_741 : decode cL_law 741 = .ok (.aload_n 2, 1) := by decide +kernel
theorem dL_law_742 : decode cL_law 742 = .ok (.invokevirtual 101, 3) := by decide +kernel
theorem dL_law_745 : decode cL_law 745 = .ok (.if_icmp .eq 134, 3) := by decide +kernel
theorem dL_law_748 : decode cL_law 748 = .ok (.iconst 0, 1) := by decide +kernel
theorem dL_law_749 : decode cL_law 749 = .ok (.ireturn, 1) := by decide +kernel
theorem dL_law_750 : decode cL_law 750 = .ok (.aload_n 1, 1) := by decide +kernel
theorem dL_law_751 : decode cL_law 751 = .ok (.aload_n 0, 1) := by decide +kernel
theorem dL_law_752 : decode cL_law 752 = .ok (.iload_n 3, 1) := by decide +kernel
theorem dL_law_753 : decode cL_law 753 = .ok (.iconst 1, 1) := by decide +kernel
theorem dL_law_754 : decode cL_law 754 = .ok (.iadd, 1) := by decide +kernel
theorem dL_law_755 : decode cL_law 755 = .ok (.iaload, 1) := by decide +kernel
theorem dL_law_756 : decode cL_law 756 = .ok (.invokevirtual 102, 3) := by decide +kernel
theorem dL_law_759 : decode cL_law 759 = .ok (.aload_n 2, 1) := by decide +kernel
theorem dL_law_760 : decode cL_law 760 = .ok (.aload_n 0, 1) := by decide +kernel
theorem dL_law_761 : decode cL_law 761 = .ok (.iload_n 3, 1) := by decide +kernel
theorem dL_law_762 : decode cL_law 762 = .ok (.iconst 1, 1) := by decide +kernel
theorem dL_law_763 : decode cL_law 763 = .ok (.iadd, 1) := by decide +kernel
theorem dL_law_764 : decode cL_law 764 = .ok (.iaload, 1) := by decide +kernel
theorem dL_law_765 : decode cL_law 765 = .ok (.invokevirtual 105, 3) := by decide +kernel
theorem dL_law_768 : decode cL_law 768 = .ok (.if_icmp .eq 111, 3) := by decide +kernel
theorem dL_law_771 : decode cL_law 771 = .ok (.iconst 0, 1) := by decide +kernel
theorem dL_law_772 : decode cL_law 772 = .ok (.ireturn, 1) := by decide +kernel
theorem dL_law_773 : decode cL_law 773 = .ok (.aload_n 1, 1) := by decide +kernel
theorem dL_law_774 : decode cL_law 774 = .ok (.aload_n 0, 1) := by decide +kernel
theorem dL_law_775 : decode cL_law 775 = .ok (.iload_n 3, 1) := by decide +kernel
theorem dL_law_776 : decode cL_law 776 = .ok (.iconst 1, 1) := by decide +kernel
theorem dL_law_777 : decode cL_law 777 = .ok (.iadd, 1) := by decide +kernel
theorem dL_law_778 : decode cL_law 778 = .ok (.iaload, 1) := by decide +kernel
theorem dL_law_779 : decode cL_law 779 = .ok (.aload_n 0, 1) := by decide +kernel
theorem dL_law_780 : decode cL_law 780 = .ok (.iload_n 3, 1) := by decide +kernel
theorem dL_law_781 : decode cL_law 781 = .ok (.iconst 2, 1) := by decide +kernel
theorem dL_law_782 : decode cL_law 782 = .ok (.iadd, 1) := by decide +kernel
theorem dL_law_783 : decode cL_law 783 = .ok (.iaload, 1) := by decide +kernel
theorem dL_law_784 : decode cL_law 784 = .ok (.aload_n 0, 1) := by decide +kernel
theorem dL_law_785 : decode cL_law 785 = .ok (.iload_n 3, 1) := by decide +kernel
theorem dL_law_786 : decode cL_law 786 = .ok (.iconst 3, 1) := by decide +kernel
theorem dL_law_787 : decode cL_law 787 = .ok (.iadd, 1) := by decide +kernel
theorem dL_law_788 : decode cL_law 788 = .ok (.iaload, 1) := by decide +kernel
theorem dL_law_789 : decode cL_law 789 = .ok (.invokevirtual 106, 3) := by decide +kernel
theorem dL_law_792 : decode cL_law 792 = .ok (.aload_n 2, 1) := by decide +kernel
theorem dL_law_793 : decode cL_law 793 = .ok (.aload_n 0, 1) := by decide +kernel
theorem dL_law_794 : decode cL_law 794 = .ok (.iload_n 3, 1) := by decide +kernel
theorem dL_law_795 : decode cL_law 795 = .ok (.iconst 1, 1) := by decide +kernel
theorem dL_law_796 : decode cL_law 796 = .ok (.iadd, 1) := by decide +kernel
theorem dL_law_797 : decode cL_law 797 = .ok (.iaload, 1) := by decide +kernel
theorem dL_law_798 : decode cL_law 798 = .ok (.aload_n 0, 1) := by decide +kernel
theorem dL_law_799 : decode cL_law 799 = .ok (.iload_n 3, 1) := by decide +kernel
theorem dL_law_800 : decode cL_law 800 = .ok (.iconst 2, 1) := by decide +kernel
theorem dL_law_801 : decode cL_law 801 = .ok (.iadd, 1) := by decide +kernel
theorem dL_law_802 : decode cL_law 802 = .ok (.iaload, 1) := by decide +kernel
theorem dL_law_803 : decode cL_law 803 = .ok (.aload_n 0, 1) := by decide +kernel
theorem dL_law_804 : decode cL_law 804 = .ok (.iload_n 3, 1) := by decide +kernel
theorem dL_law_805 : decode cL_law 805 = .ok (.iconst 3, 1) := by decide +kernel
theorem dL_law_806 : decode cL_law 806 = .ok (.iadd, 1) := by decide +kernel
theorem dL_law_807 : decode cL_law 807 = .ok (.iaload, 1) := by decide +kernel
theorem dL_law_808 : decode cL_law 808 = .ok (.invokevirtual 109, 3) := by decide +kernel
theorem dL_law_811 : decode cL_law 811 = .ok (.if_icmp .eq 68, 3) := by decide +kernel
theorem dL_law_814 : decode cL_law 814 = .ok (.iconst 0, 1) := by decide +kernel
theorem dL_law_815 : decode cL_law 815 = .ok (.ireturn, 1) := by decide +kernel
theorem dL_law_816 : decode cL_law 816 = .ok (.aload_n 1, 1) := by decide +kernel
theorem dL_law_817 : decode cL_law 817 = .ok (.invokevirtual 110, 3) := by decide +kernel
theorem dL_law_820 : decode cL_law 820 = .ok (.aload_n 2, 1) := by decide +kernel
theorem dL_law_821 : decode cL_law 821 = .ok (.invokevirtual 113, 3) := by decide +kernel
theorem dL_law_824 : decode cL_law 824 = .ok (.if_icmp .eq 55, 3) := by decide +kernel
theorem dL_law_827 : decode cL_law 827 = .ok (.iconst 0, 1) := by decide +kernel
theorem dL_law_828 : decode cL_law 828 = .ok (.ireturn, 1) := by decide +kernel
theorem dL_law_829 : decode cL_law 829 = .ok (.aload_n 1, 1) := by decide +kernel
theorem dL_law_830 : decode cL_law 830 = .ok (.invokevirtual 114, 3) := by decide +kernel
theorem dL_law_833 : decode cL_law 833 = .ok (.aload_n 2, 1) := by decide +kernel
theorem dL_law_834 : decode cL_law 834 = .ok (.invokevirtual 117, 3) := by decide +kernel
theorem dL_law_837 : decode cL_law 837 = .ok (.if_icmp .eq 42, 3) := by decide +kernel
theorem dL_law_840 : decode cL_law 840 = .ok (.iconst 0, 1) := by decide +kernel
theorem dL_law_841 : decode cL_law 841 = .ok (.ireturn, 1) := by decide +kernel
theorem dL_law_842 : decode cL_law 842 = .ok (.aload_n 1, 1) := by decide +kernel
theorem dL_law_843 : decode cL_law 843 = .ok (.aload_n 0, 1) := by decide +kernel
theorem dL_law_844 : decode cL_law 844 = .ok (.iload_n 3, 1) := by decide +kernel
theorem dL_law_845 : decode cL_law 845 = .ok (.iconst 1, 1) := by decide +kernel
theorem dL_law_846 : decode cL_law 846 = .ok (.iadd, 1) := by decide +kernel
theorem dL_law_847 : decode cL_law 847 = .ok (.iaload, 1) := by decide +kernel
theorem dL_law_848 : decode cL_law 848 = .ok (.invokevirtual 118, 3) := by decide +kernel
theorem dL_law_851 : decode cL_law 851 = .ok (.aload_n 2, 1) := by decide +kernel
theorem dL_law_852 : decode cL_law 852 = .ok (.aload_n 0, 1) := by decide +kernel
theorem dL_law_853 : decode cL_law 853 = .ok (.iload_n 3, 1) := by decide +kernel
theorem dL_law_854 : decode cL_law 854 = .ok (.iconst 1, 1) := by decide +kernel
theorem dL_law_855 : decode cL_law 855 = .ok (.iadd, 1) := by decide +kernel
theorem dL_law_856 : decode cL_law 856 = .ok (.iaload, 1) := by decide +kernel
theorem dL_law_857 : decode cL_law 857 = .ok (.invokevirtual 121, 3) := by decide +kernel
theorem dL_law_860 : decode cL_law 860 = .ok (.if_icmp .eq 19, 3) := by decide +kernel
theorem dL_law_863 : decode cL_law 863 = .ok (.iconst 0, 1) := by decide +kernel
theorem dL_law_864 : decode cL_law 864 = .ok (.ireturn, 1) := by decide +kernel
theorem dL_law_865 : decode cL_law 865 = .ok (.aload_n 1, 1) := by decide +kernel
theorem dL_law_866 : decode cL_law 866 = .ok (.invokevirtual 122, 3) := by decide +kernel
theorem dL_law_869 : decode cL_law 869 = .ok (.aload_n 2, 1) := by decide +kernel
theorem dL_law_870 : decode cL_law 870 = .ok (.invokevirtual 126, 3) := by decide +kernel
theorem dL_law_873 : decode cL_law 873 = .ok (.lcmp, 1) := by decide +kernel
theorem dL_law_874 : decode cL_law 874 = .ok (.ifCond .eq 5, 3) := by decide +kernel
theorem dL_law_877 : decode cL_law 877 = .ok (.iconst 0, 1) := by decide +kernel
theorem dL_law_878 : decode cL_law 878 = .ok (.ireturn, 1) := by decide +kernel
theorem dL_law_879 : decode cL_law 879 = .ok (.iinc 3 4, 3) := by decide +kernel
theorem dL_law_882 : decode cL_law 882 = .ok (.goto (-864), 3) := by decide +kernel
theorem dL_law_885 : decode cL_law 885 = .ok (.iconst 1, 1) := by decide +kernel
theorem dL_law_886 : decode cL_law 886 = .ok (.ireturn, 1) := by decide +kernel
end
section
/-! ===== the abstract machine: whole numbers for ints and longs, numbers of cells for references ===== -/
abbrev zA : Type := Int ⊕ Int ⊕ Option Nat
abbrev zC : Type := Nat × Int × (Nat → Option Nat)
abbrev zV : Type := Nat → Nat → Int
abbrev zI (x : Int) : zA := .inl x
abbrev zJ (x : Int) : zA := .inr (.inl x)
abbrev zR (x : Nat) : zA := .inr (.inr (some x))
abbrev zQ (x : Option Nat) : zA := .inr (.inr x)
abbrev inR (x : Int) : Prop := -2147483648 ≤ x ∧ x < 2147483648
abbrev inL (x : Int) : Prop := -9223372036854775808 ≤ x ∧ x < 9223372036854775808
def TB : List Cond := lw_tbl.filter goodWord
theorem TB_of {w : Cond} (h : w ∈ lw_tbl) (hg : goodWord w = true) : w ∈ TB := List.mem_filter.mpr ⟨h, hg⟩
theorem TB_tab {w : Cond} (i : Nat) (h : tables_1[i]? = some w) (hg : goodWord w = true) : w ∈ TB := TB_of (List.mem_append_right _ (List.mem_of_getElem? h)) hg
theorem TB_sel {w : Cond} (i : Nat) (h : (k2_sels lw_privs)[i]? = some w) (hg : goodWord w = true) : w ∈ TB := TB_of (List.mem_append_left _ (List.mem_of_getElem? h)) hg
theorem TB_good {w : Cond} (h : w ∈ TB) : w ∈ TB ∧ ((w.onTables && w.keeps) = true ∨ ∃ ty, w = .arrayClass ty) := ⟨h, good_of_word (List.mem_filter.mp h).2⟩
/-- a value of the abstract machine, at addresses ad -/
def cvv (ad : Nat → Nat) (v : zA) : Value := match v with
  | .inl x => .int (Int32.ofInt x)
  | .inr (.inl x) => .long (Int64.ofInt x)
  | .inr (.inr none) => .null
  | .inr (.inr (some k)) => .ref (ad k)
def okv (n : Nat) (v : zA) : Prop := match v with
  | .inr (.inr (some k)) => k < n ∨ k = 999999
  | _ => True
theorem cvv_to {n : Nat} {ad ad' : Nat → Nat} (h : ∀ k, k < n ∨ k = 999999 → ad' k = ad k) {v : zA} (hv : okv n v) : cvv ad' v = cvv ad v := by
  rcases v with x | x | _ | k
  · rfl
  · rfl
  · rfl
  · exact congrArg Value.ref (h k hv)
theorem cvv_map {n : Nat} {ad ad' : Nat → Nat} (h : ∀ k, k < n ∨ k = 999999 → ad' k = ad k) : ∀ {st : List zA}, (∀ v ∈ st, okv n v) → st.map (cvv ad') = st.map (cvv ad)
  | [], _ => rfl
  | v :: st, hv => by
    rw [List.map_cons, List.map_cons, cvv_to h (hv v List.mem_cons_self), cvv_map h (fun w hw => hv w (List.mem_cons_of_mem _ hw))]
theorem okv_mono {n n' : Nat} (h : n ≤ n') {v : zA} (hv : okv n v) : okv n' v := by
  rcases v with x | x | _ | k
  · trivial
  · trivial
  · trivial
  · exact hv.imp (fun q => Nat.lt_of_lt_of_le q h) id
/-- the fields' kinds of each class: 0 int, 1 long, 2 a reference, 3 a feud's worth -/
def fktL : List (List Nat) := [[3], [0], [3], [3], [2, 2, 2, 2, 2, 2, 2, 2, 2, 0, 2, 2, 0], [3], [2, 2, 0, 0], [2, 1], [2, 0, 0, 0], [3], [2, 2, 0], [2, 2, 2, 2, 2, 2, 2, 2, 0, 0], [2, 0, 2, 0, 0, 0, 0, 2, 2, 0, 2, 2, 2, 2, 2, 0, 2, 0, 0, 0, 0, 2, 2, 2, 2, 1]]
def fkt (t : Nat) : List Nat := fktL.getD t []
def fval (ad : Nat → Nat) (f : Nat → Int) (sc : zC) (kd k : Nat) : Value := if kd = 0 then .int (Int32.ofInt (f k)) else if kd = 1 then .long (Int64.ofInt (f k)) else if kd = 2 then va_rf ((sc.2.2 k).map ad) else .int (Int32.ofInt sc.2.1)
def fvals (ad : Nat → Nat) (f : Nat → Int) (sc : zC) : List Value := (fkt sc.1).mapIdx (fun k kd => fval ad f sc kd k)
def cE (ad : Nat → Nat) (cy : Nat → ClassId) (f : Nat → Int) (sc : zC) : va_E :=
  if sc.1 < 13 then .inr (sc.1, fvals ad f sc) else if sc.1 = 13 then .inl (cy 0, sc.2.1.toNat, .inl (fun j => Int32.ofInt (f j))) else if sc.1 = 14 then .inl (cy 1, sc.2.1.toNat, .inl (fun j => Int32.ofInt (f j))) else if sc.1 = 15 then .inl (cy 2, sc.2.1.toNat, .inr (.inl (fun j => Int64.ofInt (f j)))) else .inl (cy 3, sc.2.1.toNat, .inr (.inr (.inr (.inr (fun j => (sc.2.2 j).map ad)))))
def wsW (ad : Nat → Nat) (cy : Nat → ClassId) (S : List zC) (V : zV) : va_W := S.mapIdx (fun c sc => (ad c, cE ad cy (V c) sc))
theorem wsW_at {ad : Nat → Nat} {cy : Nat → ClassId} {S : List zC} {V : zV} {c : Nat} {sc : zC} (h : S[c]? = some sc) : (wsW ad cy S V)[c]? = some (ad c, cE ad cy (V c) sc) := by
  simp [wsW, h]
theorem wsW_of {ad : Nat → Nat} {cy : Nat → ClassId} {S : List zC} {V : zV} {c : Nat} {q : Nat × va_E} (h : (wsW ad cy S V)[c]? = some q) : ∃ sc, S[c]? = some sc ∧ q = (ad c, cE ad cy (V c) sc) := by
  unfold wsW at h
  rw [List.getElem?_mapIdx] at h
  cases hs : S[c]? with
  | none => rw [hs] at h; cases h
  | some sc => rw [hs] at h; exact ⟨sc, rfl, (Option.some.inj h).symm⟩
theorem wsW_set {ad : Nat → Nat} {cy : Nat → ClassId} {S : List zC} {V V' : zV} {c : Nat} {sc sc' : zC} (h : S[c]? = some sc) (hV : ∀ c', c' ≠ c → V' c' = V c') : (wsW ad cy S V).set c (ad c, cE ad cy (V' c) sc') = wsW ad cy (S.set c sc') V' := by
  apply List.ext_getElem?
  intro k
  unfold wsW
  have hl := (List.getElem?_eq_some_iff.mp h).1
  by_cases hk : k = c
  · subst hk
    rw [List.getElem?_set_self (by simpa using hl), List.getElem?_mapIdx, List.getElem?_set_self hl]
    rfl
  · rw [List.getElem?_set_ne (Ne.symm hk), List.getElem?_mapIdx, List.getElem?_mapIdx, List.getElem?_set_ne (Ne.symm hk)]
    cases hs : S[k]? with
    | none => rfl
    | some s1 => rw [Option.map_some, Option.map_some, hV k hk]
theorem wsW_setV {ad : Nat → Nat} {cy : Nat → ClassId} {S : List zC} {V V' : zV} {c : Nat} {sc : zC} (h : S[c]? = some sc) (hV : ∀ c', c' ≠ c → V' c' = V c') : (wsW ad cy S V).set c (ad c, cE ad cy (V' c) sc) = wsW ad cy S V' := by
  rw [wsW_set h hV]
  congr 1
  apply List.ext_getElem?
  intro k
  by_cases hk : k = c
  · subst hk
    rw [List.getElem?_set_self (List.getElem?_eq_some_iff.mp h).1, h]
  · rw [List.getElem?_set_ne (Ne.symm hk)]
def okS (S : List zC) : Prop := ∀ (c : Nat) (sc : zC), S[c]? = some sc → ∀ k r, sc.2.2 k = some r → r < S.length
theorem fval_to {n : Nat} {ad ad' : Nat → Nat} (h : ∀ k, k < n ∨ k = 999999 → ad' k = ad k) {f : Nat → Int} {sc : zC} (hs : ∀ k r, sc.2.2 k = some r → r < n) (kd k : Nat) : fval ad' f sc kd k = fval ad f sc kd k := by
  have e : (sc.2.2 k).map ad' = (sc.2.2 k).map ad := by
    cases hr : sc.2.2 k with
    | none => rfl
    | some r => rw [Option.map_some, Option.map_some, h r (Or.inl (hs k r hr))]
  unfold fval
  rw [e]
theorem cE_to {n : Nat} {ad ad' : Nat → Nat} (h : ∀ k, k < n ∨ k = 999999 → ad' k = ad k) {cy : Nat → ClassId} {f : Nat → Int} {sc : zC} (hs : ∀ k r, sc.2.2 k = some r → r < n) : cE ad' cy f sc = cE ad cy f sc := by
  have e1 : fvals ad' f sc = fvals ad f sc := by
    unfold fvals
    congr 1
    funext k kd
    exact fval_to h hs kd k
  have e2 : (fun j => (sc.2.2 j).map ad') = (fun j => (sc.2.2 j).map ad) := by
    funext j
    cases hr : sc.2.2 j with
    | none => rfl
    | some r => rw [Option.map_some, Option.map_some, h r (Or.inl (hs j r hr))]
  unfold cE
  rw [e1, e2]
theorem wsW_push {ad ad' : Nat → Nat} {cy : Nat → ClassId} {S : List zC} {V V' : zV} {q : Nat} {sc' : zC} (hS : okS S) (ha : ∀ k, k < S.length ∨ k = 999999 → ad' k = ad k) (hq : ad' S.length = q) (hV : ∀ c, c < S.length → V' c = V c) : wsW ad cy S V ++ [(q, cE ad' cy (V' S.length) sc')] = wsW ad' cy (S ++ [sc']) V' := by
  unfold wsW
  rw [List.mapIdx_append]
  congr 1
  · apply List.ext_getElem?
    intro k
    rw [List.getElem?_mapIdx, List.getElem?_mapIdx]
    cases hs : S[k]? with
    | none => rfl
    | some s1 =>
      have hl := (List.getElem?_eq_some_iff.mp hs).1
      rw [Option.map_some, Option.map_some, ha k (Or.inl hl), hV k hl, cE_to ha (hS k s1 hs)]
  · simp [hq]
theorem okS_push {S : List zC} {sc' : zC} (h : okS S) (h' : ∀ k r, sc'.2.2 k = some r → r < S.length + 1) : okS (S ++ [sc']) := by
  intro c sc hc k r hr
  rw [List.length_append, List.length_singleton]
  by_cases hl : c < S.length
  · rw [List.getElem?_append_left hl] at hc
    exact Nat.lt_succ_of_lt (h c sc hc k r hr)
  · rw [List.getElem?_append_right (by omega)] at hc
    have hz : c - S.length < 1 := (List.getElem?_eq_some_iff.mp hc).1
    rw [show c - S.length = 0 by omega] at hc
    cases hc
    exact h' k r hr
theorem okS_set {S : List zC} {c : Nat} {sc' : zC} (h : okS S) (h' : ∀ k r, sc'.2.2 k = some r → r < S.length) : okS (S.set c sc') := by
  intro c1 sc hc k r hr
  rw [List.length_set]
  by_cases hk : c1 = c
  · subst hk
    have hl : c1 < (S.set c1 sc').length := (List.getElem?_eq_some_iff.mp hc).1
    rw [List.length_set] at hl
    rw [List.getElem?_set_self hl] at hc
    cases hc
    exact h' k r hr
  · rw [List.getElem?_set_ne (Ne.symm hk)] at hc
    exact h c1 sc hc k r hr
/-- what a cell's place of a kind holds -/
def inC (t k : Nat) (x : Int) : Prop := if t = 15 ∨ (t = 7 ∧ k = 1) ∨ (t = 12 ∧ k = 25) then inL x else if t = 14 then x = 0 ∨ x = 1 else inR x
def inV (S : List zC) (V : zV) : Prop := ∀ (c : Nat) (sc : zC), S[c]? = some sc → ∀ k, inC sc.1 k (V c k)
theorem inC_0 (t k : Nat) : inC t k 0 := by
  unfold inC
  split
  · exact ⟨by decide, by decide⟩
  · split
    · exact Or.inl rfl
    · exact ⟨by decide, by decide⟩
/-- new contents of a cell -/
def vrow (V : zV) (c : Nat) (f : Nat → Int) : zV := fun c' => if c' = c then f else V c'
def ups (f : Nat → Int) (k : Nat) (x : Int) : Nat → Int := fun j => if j = k then x else f j
abbrev vset (V : zV) (c k : Nat) (x : Int) : zV := vrow V c (ups (V c) k x)
theorem vrow_s (V : zV) (c : Nat) (f : Nat → Int) : vrow V c f c = f := if_pos rfl
theorem vrow_n {V : zV} {c c' : Nat} {f : Nat → Int} (h : c' ≠ c) : vrow V c f c' = V c' := if_neg h
theorem ups_s (f : Nat → Int) (k : Nat) (x : Int) : ups f k x k = x := if_pos rfl
theorem ups_n {f : Nat → Int} {k j : Nat} {x : Int} (h : j ≠ k) : ups f k x j = f j := if_neg h
theorem inV_row {S : List zC} {V : zV} {c : Nat} {f : Nat → Int} (h : inV S V) (hf : ∀ sc, S[c]? = some sc → ∀ k, inC sc.1 k (f k)) : inV S (vrow V c f) := by
  intro c1 sc hc k
  by_cases hk : c1 = c
  · subst hk
    rw [vrow_s]
    exact hf sc hc k
  · rw [vrow_n hk]
    exact h c1 sc hc k
theorem inV_set {S : List zC} {V : zV} {c k : Nat} {x : Int} {sc : zC} (h : inV S V) (hc : S[c]? = some sc) (hx : inC sc.1 k x) : inV S (vset V c k x) := by
  refine inV_row h (fun sc' hc' j => ?_)
  cases hc.symm.trans hc'
  by_cases hj : j = k
  · subst hj
    rw [ups_s]
    exact hx
  · rw [ups_n hj]
    exact h c sc hc j
theorem inV_shape {S : List zC} {V : zV} {c : Nat} {sc sc' : zC} (h : inV S V) (hc : S[c]? = some sc) (ht : sc'.1 = sc.1) : inV (S.set c sc') V := by
  intro c1 s1 h1 k
  by_cases hk : c1 = c
  · subst hk
    rw [List.getElem?_set_self (List.getElem?_eq_some_iff.mp hc).1] at h1
    cases h1
    rw [ht]
    exact h c1 sc hc k
  · rw [List.getElem?_set_ne (Ne.symm hk)] at h1
    exact h c1 s1 h1 k
theorem inV_push {S : List zC} {V : zV} {sc' : zC} {f : Nat → Int} (h : inV S V) (hf : ∀ k, inC sc'.1 k (f k)) : inV (S ++ [sc']) (vrow V S.length f) := by
  intro c sc hc k
  by_cases hl : c < S.length
  · rw [List.getElem?_append_left hl] at hc
    rw [vrow_n (Nat.ne_of_lt hl)]
    exact h c sc hc k
  · rw [List.getElem?_append_right (by omega)] at hc
    have hz : c - S.length < 1 := (List.getElem?_eq_some_iff.mp hc).1
    have e : c = S.length := by omega
    subst e
    rw [Nat.sub_self] at hc
    cases hc
    rw [vrow_s]
    exact hf k
/-- the locals -/
def zLR (n : Nat) (ad : Nat → Nat) (nL : Nat) (al : List (Option zA)) (ls : Array Slot) : Prop := ls.size = nL ∧ lv_wf ls ∧ ∀ (i : Nat) (v : zA), al[i]? = some (some v) → okv n v ∧ ls[i]? = some (.val (cvv ad v))
theorem zLR_to {n n' nL : Nat} {ad ad' : Nat → Nat} {al : List (Option zA)} {ls : Array Slot} (hn : n ≤ n') (h : ∀ k, k < n ∨ k = 999999 → ad' k = ad k) (hl : zLR n ad nL al ls) : zLR n' ad' nL al ls :=
  ⟨hl.1, hl.2.1, fun i v hi => ⟨okv_mono hn (hl.2.2 i v hi).1, by rw [cvv_to h (hl.2.2 i v hi).1]; exact (hl.2.2 i v hi).2⟩⟩
def isJv (v : Option zA) : Bool := match v with
  | some (.inr (.inl _)) => true
  | _ => false
/-- a store of one slot: a long whose second half is hit is gone -/
def kil (al : List (Option zA)) (i : Nat) : List (Option zA) := match i with
  | 0 => al
  | j + 1 => match al[j]? with
    | some (some (.inr (.inl _))) => al.set j none
    | _ => al
def st1 (al : List (Option zA)) (i : Nat) (v : zA) : List (Option zA) := (kil al i).set i (some v)
def st2 (al : List (Option zA)) (i : Nat) (v : zA) : List (Option zA) := ((kil al i).set i (some v)).set (i + 1) none
theorem cvv_cat (ad : Nat → Nat) (v : zA) : (cvv ad v).category = if isJv (some v) then 2 else 1 := by
  rcases v with x | x | _ | k <;> rfl
/-- the listed values of the locals, as the kit has them -/
def lst (ad : Nat → Nat) (al : List (Option zA)) : List (Nat × Value) := (List.range al.length).filterMap (fun i => match al[i]? with
  | some (some v) => some (i, cvv ad v)
  | _ => none)
theorem lst_mem {ad : Nat → Nat} {al : List (Option zA)} {i : Nat} {v : zA} (h : al[i]? = some (some v)) : (i, cvv ad v) ∈ lst ad al :=
  List.mem_filterMap.mpr ⟨i, List.mem_range.mpr (List.getElem?_eq_some_iff.mp h).1, by rw [h]⟩
theorem lst_has {n nL : Nat} {ad : Nat → Nat} {al : List (Option zA)} {ls : Array Slot} (h : zLR n ad nL al ls) : lv_has ls nL (lst ad al) := by
  refine ⟨h.1, h.2.1, fun q hq => ?_⟩
  obtain ⟨i, -, hi⟩ := List.mem_filterMap.mp hq
  cases ha : al[i]? with
  | none => rw [ha] at hi; cases hi
  | some o =>
    cases o with
    | none => rw [ha] at hi; cases hi
    | some v =>
      rw [ha] at hi
      cases hi
      exact (h.2.2 i v ha).2
theorem kil_at {al : List (Option zA)} {i j : Nat} {w : zA} (h : (kil al i)[j]? = some (some w)) : al[j]? = some (some w) ∧ ¬ (j + 1 = i ∧ isJv (some w) = true) := by
  cases i with
  | zero => exact ⟨h, fun q => by omega⟩
  | succ i =>
    unfold kil at h
    dsimp only at h
    split at h
    · rename_i x hx
      by_cases hj : j = i
      · subst hj
        rw [List.getElem?_set_self (List.getElem?_eq_some_iff.mp hx).1] at h
        cases h
      · rw [List.getElem?_set_ne (Ne.symm hj)] at h
        exact ⟨h, fun q => by omega⟩
    · rename_i hx
      refine ⟨h, fun q => ?_⟩
      have hj : j = i := by omega
      subst hj
      rcases w with x | x | o
      · exact absurd q.2 (by simp [isJv])
      · exact hx x h
      · exact absurd q.2 (by simp [isJv])
theorem kil_len (al : List (Option zA)) (i : Nat) : (kil al i).length = al.length := by
  cases i with
  | zero => rfl
  | succ i =>
    unfold kil
    dsimp only
    split
    · simp
    · rfl
theorem st1_to {n nL i : Nat} {ad : Nat → Nat} {al : List (Option zA)} {ls' : Array Slot} {v : zA} (hal : ∀ (j : Nat) (w : zA), al[j]? = some (some w) → okv n w) (hv : okv n v)
    (h : lv_has ls' nL ((i, cvv ad v) :: (lst ad al).filter (fun q => !(q.1 == i) && !(q.1 + 1 == i && q.2.category == 2)))) : zLR n ad nL (st1 al i v) ls' := by
  refine ⟨h.1, h.2.1, fun j w hj => ?_⟩
  unfold st1 at hj
  by_cases hji : j = i
  · subst hji
    have hl : j < (kil al j).length := by
      have := (List.getElem?_eq_some_iff.mp hj).1
      simpa using this
    rw [List.getElem?_set_self hl] at hj
    cases hj
    exact ⟨hv, h.2.2 (j, cvv ad v) List.mem_cons_self⟩
  · rw [List.getElem?_set_ne (Ne.symm hji)] at hj
    obtain ⟨h1, h2⟩ := kil_at hj
    refine ⟨hal j w h1, h.2.2 (j, cvv ad w) (List.mem_cons_of_mem _ (List.mem_filter.mpr ⟨lst_mem h1, ?_⟩))⟩
    dsimp only
    rw [cvv_cat]
    by_cases hq : j + 1 = i
    · have : isJv (some w) = false := by
        cases hJ : isJv (some w) with
        | false => rfl
        | true => exact absurd ⟨hq, hJ⟩ h2
      simp [this, hji]
    · simp [hq, hji]
theorem st2_to {n nL i : Nat} {ad : Nat → Nat} {al : List (Option zA)} {ls' : Array Slot} {v : zA} (hal : ∀ (j : Nat) (w : zA), al[j]? = some (some w) → okv n w) (hv : okv n v)
    (h : lv_has ls' nL ((i, cvv ad v) :: (lst ad al).filter (fun q => !(q.1 == i) && (!(q.1 == i + 1) && !(q.1 + 1 == i && q.2.category == 2))))) : zLR n ad nL (st2 al i v) ls' := by
  refine ⟨h.1, h.2.1, fun j w hj => ?_⟩
  unfold st2 at hj
  by_cases hj1 : j = i + 1
  · subst hj1
    have hl : i + 1 < ((kil al i).set i (some v)).length := by
      have := (List.getElem?_eq_some_iff.mp hj).1
      simpa using this
    rw [List.getElem?_set_self hl] at hj
    cases hj
  · rw [List.getElem?_set_ne (Ne.symm hj1)] at hj
    by_cases hji : j = i
    · subst hji
      have hl : j < (kil al j).length := by
        have := (List.getElem?_eq_some_iff.mp hj).1
        simpa using this
      rw [List.getElem?_set_self hl] at hj
      cases hj
      exact ⟨hv, h.2.2 (j, cvv ad v) List.mem_cons_self⟩
    · rw [List.getElem?_set_ne (Ne.symm hji)] at hj
      obtain ⟨h1, h2⟩ := kil_at hj
      refine ⟨hal j w h1, h.2.2 (j, cvv ad w) (List.mem_cons_of_mem _ (List.mem_filter.mpr ⟨lst_mem h1, ?_⟩))⟩
      dsimp only
      rw [cvv_cat]
      by_cases hq : j + 1 = i
      · have : isJv (some w) = false := by
          cases hJ : isJv (some w) with
          | false => rfl
          | true => exact absurd ⟨hq, hJ⟩ h2
        simp [this, hji, hj1]
      · simp [hq, hji, hj1]
end
section
/-! ===== numbers ===== -/
theorem z_toInt {x : Int} (h : inR x) : (Int32.ofInt x).toInt = x := by
  rw [Int32.toInt_ofInt]
  show x.bmod 4294967296 = x
  exact Int.bmod_eq_of_le (by omega) (by omega)
theorem z_toIntL {x : Int} (h : inL x) : (Int64.ofInt x).toInt = x := by
  rw [Int64.toInt_ofInt]
  show x.bmod 18446744073709551616 = x
  exact Int.bmod_eq_of_le (by omega) (by omega)
theorem z_lt {x y : Int} (hx : inR x) (hy : inR y) : Int32.ofInt x < Int32.ofInt y ↔ x < y := by rw [Int32.lt_iff_toInt_lt, z_toInt hx, z_toInt hy]
theorem z_le {x y : Int} (hx : inR x) (hy : inR y) : Int32.ofInt x ≤ Int32.ofInt y ↔ x ≤ y := by rw [Int32.le_iff_toInt_le, z_toInt hx, z_toInt hy]
theorem z_eq {x y : Int} (hx : inR x) (hy : inR y) : Int32.ofInt x = Int32.ofInt y ↔ x = y := by rw [← Int32.toInt_inj, z_toInt hx, z_toInt hy]
theorem z_ltL {x y : Int} (hx : inL x) (hy : inL y) : Int64.ofInt x < Int64.ofInt y ↔ x < y := by rw [Int64.lt_iff_toInt_lt, z_toIntL hx, z_toIntL hy]
theorem z_eqL {x y : Int} (hx : inL x) (hy : inL y) : Int64.ofInt x = Int64.ofInt y ↔ x = y := by rw [← Int64.toInt_inj, z_toIntL hx, z_toIntL hy]
theorem z_0 : Int32.ofInt 0 = 0 := rfl
theorem z_clamp {i : Int} (h0 : 0 ≤ i) (h : i < 2147483648) : (Int32.ofInt i).toNatClampNeg = i.toNat := by
  show (Int32.ofInt i).toInt.toNat = i.toNat
  rw [z_toInt ⟨by omega, h⟩]
theorem z_neg {i : Int} (h0 : 0 ≤ i) (h : i < 2147483648) : ¬ Int32.ofInt i < 0 := by
  rw [← z_0, z_lt ⟨by omega, h⟩ ⟨by omega, by omega⟩]
  omega
theorem z_in {i n : Int} (h0 : 0 ≤ i) (h : i < n) (hn : n ≤ 2147483647) : vp_in (Int32.ofInt i) n.toNat := by
  intro q
  rcases q with q | q
  · exact z_neg h0 (by omega) q
  · rw [z_clamp h0 (by omega)] at q
    omega
theorem z_div {x y : Int} (h0 : 0 ≤ x) (hx : x < 2147483648) (hy0 : 0 < y) (hy : y < 2147483648) : Int32.ofInt x / Int32.ofInt y = Int32.ofInt (x / y) := by
  rw [← Int32.toInt_inj, Int32.toInt_div, z_toInt ⟨by omega, hx⟩, z_toInt ⟨by omega, hy⟩, Int.tdiv_eq_ediv_of_nonneg h0, Int32.toInt_ofInt]
theorem z_mod {x y : Int} (h0 : 0 ≤ x) (hx : x < 2147483648) (hy0 : 0 < y) (hy : y < 2147483648) : Int32.ofInt x - Int32.ofInt x / Int32.ofInt y * Int32.ofInt y = Int32.ofInt (x % y) := by
  rw [z_div h0 hx hy0 hy, ← Int32.ofInt_mul, ← Int32.ofInt_sub, Int.emod_def, Int.mul_comm]
theorem z_divL {x y : Int} (h0 : 0 ≤ x) (hx : x < 9223372036854775808) (hy0 : 0 < y) (hy : y < 9223372036854775808) : Int64.ofInt x / Int64.ofInt y = Int64.ofInt (x / y) := by
  rw [← Int64.toInt_inj, Int64.toInt_div, z_toIntL ⟨by omega, hx⟩, z_toIntL ⟨by omega, hy⟩, Int.tdiv_eq_ediv_of_nonneg h0, Int64.toInt_ofInt]
theorem z_modL {x y : Int} (h0 : 0 ≤ x) (hx : x < 9223372036854775808) (hy0 : 0 < y) (hy : y < 9223372036854775808) : Int64.ofInt x - Int64.ofInt x / Int64.ofInt y * Int64.ofInt y = Int64.ofInt (x % y) := by
  rw [z_divL h0 hx hy0 hy, ← Int64.ofInt_mul, ← Int64.ofInt_sub, Int.emod_def, Int.mul_comm]
/-! ===== the judgement ===== -/
def okst (n : Nat) : List zA → Prop
  | [] => True
  | v :: st => okv n v ∧ okst n st
theorem okst_mem {n : Nat} : ∀ {st : List zA}, okst n st → ∀ v ∈ st, okv n v
  | [], _, v, h => by cases h
  | w :: st, ho, v, h => by
    rcases List.mem_cons.mp h with rfl | h
    · exact ho.1
    · exact okst_mem ho.2 v h
theorem okst_mono {n n' : Nat} (h : n ≤ n') : ∀ {st : List zA}, okst n st → okst n' st
  | [], _ => trivial
  | _ :: _, ho => ⟨okv_mono h ho.1, okst_mono h ho.2⟩
theorem okst_app {n : Nat} : ∀ {a b : List zA}, okst n (a ++ b) ↔ okst n a ∧ okst n b
  | [], b => ⟨fun h => ⟨trivial, h⟩, fun h => h.2⟩
  | v :: a, b => ⟨fun h => ⟨⟨h.1, (okst_app.mp h.2).1⟩, (okst_app.mp h.2).2⟩, fun h => ⟨h.1.1, okst_app.mpr ⟨h.1.2, h.2⟩⟩⟩
theorem okst_rev {n : Nat} : ∀ {a : List zA}, okst n a → okst n a.reverse
  | [], _ => trivial
  | v :: a, h => by rw [List.reverse_cons]; exact okst_app.mpr ⟨okst_rev h.2, h.1, trivial⟩
def tyL (cy : Nat → ClassId) : List (ClassId × FieldType) := [(cy 0, .int), (cy 1, .boolean), (cy 2, .long), (cy 3, .object "ClosedFeuds$Feud")]
def zNest : List Cond := [.methodLinkNest "ClosedFeuds" 9 yX8_init "ClosedFeuds", .methodLinkNest "ClosedFeuds" 40 yX6_init "ClosedFeuds", .methodLinkNest "ClosedFeuds" 47 yX7_init "ClosedFeuds", .methodLinkNest "ClosedFeuds" 54 yX1_init "ClosedFeuds", .methodLinkNest "ClosedFeuds$Isle" 145 yX11_times "ClosedFeuds"]
def zCast : List (String × String) := [("ClosedFeuds$Pig", "ClosedFeuds$Grudge"), ("ClosedFeuds$Boundary", "ClosedFeuds$Feud"), ("ClosedFeuds$Joke", "ClosedFeuds$Feud"), ("ClosedFeuds$Grudge", "ClosedFeuds$Feud"), ("ClosedFeuds$Pig", "ClosedFeuds$Feud")]
def zNoC : List (String × String) := [("ClosedFeuds$Feud", "ClosedFeuds$Boundary"), ("ClosedFeuds$Joke", "ClosedFeuds$Boundary"), ("ClosedFeuds$Grudge", "ClosedFeuds$Boundary"), ("ClosedFeuds$Pig", "ClosedFeuds$Boundary"), ("ClosedFeuds$Feud", "ClosedFeuds$Joke"), ("ClosedFeuds$Boundary", "ClosedFeuds$Joke"), ("ClosedFeuds$Grudge", "ClosedFeuds$Joke"), ("ClosedFeuds$Pig", "ClosedFeuds$Joke"), ("ClosedFeuds$Feud", "ClosedFeuds$Grudge"), ("ClosedFeuds$Boundary", "ClosedFeuds$Grudge"), ("ClosedFeuds$Joke", "ClosedFeuds$Grudge"), ("ClosedFeuds$Feud", "ClosedFeuds$Pig"), ("ClosedFeuds$Boundary", "ClosedFeuds$Pig"), ("ClosedFeuds$Joke", "ClosedFeuds$Pig"), ("ClosedFeuds$Grudge", "ClosedFeuds$Pig")]
/-- what the tables say, beside their words -/
def KK (D : va_G) (cy : Nat → ClassId) (s : State) : Prop := va_K D vwCl (tyL cy) s ∧ (∀ w ∈ zNest, va_Nw w s) ∧ (∀ q ∈ zCast, va_Nw (.castable q.1 q.2) s) ∧ (∀ q ∈ zNoC, va_Nc q.1 q.2 s) ∧ va_AO "ClosedFeuds$Feud" s
theorem KK_same {D : va_G} {cy : Nat → ClassId} {u U : State} (h : u.vm = U.vm) (hK : KK D cy u) : KK D cy U := by
  have ha : u.vm.Alike U.vm := h ▸ Vm.Alike.refl u.vm
  refine ⟨va_K.moved ha hK.1, fun w hw => va_Nw.same ?_ h (hK.2.1 w hw), fun q hq => va_Nw.same rfl h (hK.2.2.1 q hq), fun q hq => va_Nc.moved ha (hK.2.2.2.1 q hq), va_AO.moved ha hK.2.2.2.2⟩
  simp only [zNest, List.mem_cons, List.not_mem_nil, or_false] at hw
  rcases hw with rfl | rfl | rfl | rfl | rfl <;> rfl
theorem KK_warm {D : va_G} {cy : Nat → ClassId} {s U : State} (hW : s.WarmedH U.vm) (hK : KK D cy s) : KK D cy U := by
  refine ⟨va_K.moved hW.alike hK.1, fun w hw => ?_, fun q hq => va_Nw.warmC hW (hK.2.2.1 q hq), fun q hq => va_Nc.moved hW.alike (hK.2.2.2.1 q hq), va_AO.moved hW.alike hK.2.2.2.2⟩
  have h := hK.2.1 w hw
  simp only [zNest, List.mem_cons, List.not_mem_nil, or_false] at hw
  rcases hw with rfl | rfl | rfl | rfl | rfl <;> exact va_Nw.warmM hW h
abbrev zM : Type := Program × Launch × Env × Room × State × MethodId × Array Value × List Frame × Method × Code × va_G × (Nat → ClassId) × (Nat → Prop) × (State → Prop) × (Nat → Nat) × Nat
/-- the world: the cells S with the numbers V at the addresses ad -/
def zWD (D : va_G) (cy : Nat → ClassId) (A : Nat → Prop) (ad0 : Nat → Nat) (n0 : Nat) (ad : Nat → Nat) (S : List zC) (V : zV) (H : Heap) : Prop :=
  va_P D vwCl (wsW ad cy S V) H ∧ va_D A (wsW ad cy S V) ∧ okS S ∧ inV S V ∧ n0 ≤ S.length ∧ ∀ k, k < n0 ∨ k = 999999 → ad k = ad0 k
/-- the machine at pc, with these cells, numbers, locals and stack, comes to its end -/
def zW (X : zM) (S : List zC) (V : zV) (nc ns : Nat) (al : List (Option zA)) (st : List zA) (pc : Nat) : Prop := match X with
  | (p, l, e, R, s, m, args, below, meth, c, D, cy, A, Q, ad0, n0) => ∀ (ad : Nat → Nat) (H : Heap) (locs : List Loc) (ls : Array Slot), zWD D cy A ad0 n0 ad S V H → va_S A s.heap H locs → zLR S.length ad c.maxLocals al ls → okst S.length st → W p l e R s m args below meth c H locs nc ns Q (F0 m pc ls (st.map (cvv ad)))
def zCX (X : zM) (cc : ByteArray) (nL : Nat) (own nm : String) (rm : Room) : Prop := match X with
  | (p, l, e, R, s, m, args, below, meth, c, D, cy, A, Q, ad0, n0) => p.tables.exec = Jvm.exec ∧ c.code = cc ∧ c.maxLocals = nL ∧ s.vm.findClass own = some m.cls ∧ (∀ w ∈ TB, w.before args s = true) ∧ meth.locks = false ∧ KK D cy s ∧ (∀ q, s.heap.size ≤ q → A q) ∧ R = rm ∧ meth.name = nm
def zPost (D : va_G) (cy : Nat → ClassId) (A : Nat → Prop) (ad0 : Nat → Nat) (n0 : Nat) (post : Option zA → List zC → zV → Prop) : Array Value → State → Outcome → State → Prop := fun _ st oc t =>
  (∃ (r : Option zA) (ad : Nat → Nat) (S : List zC) (V : zV), oc = .returned (r.map (cvv ad)) ∧ post r S V ∧ (∀ v, r = some v → okv S.length v) ∧ zWD D cy A ad0 n0 ad S V t.heap) ∧ va_F A st t
def zRX (X : zM) (ret : Option FieldType) (post : Option zA → List zC → zV → Prop) (mc ms : Nat) : Prop := match X with
  | (p, l, e, R, s, m, args, below, meth, c, D, cy, A, Q, ad0, n0) => meth.sig.returnType = ret ∧ Q = MQ below (zPost D cy A ad0 n0 post) args s mc ms A
end
section
/-! ===== one instruction, a row ===== -/
section ZR
variable {X : zM} {cc : ByteArray} {nL : Nat} {own nm : String} {rm : Room} {S : List zC} {V : zV} {nc ns pc : Nat} {al : List (Option zA)} {st : List zA}
theorem a_iadd (C : zCX X cc nL own nm rm) (hd : decode cc pc = .ok (.iadd, 1)) {x y : Int} (k : zW X S V nc ns al (zI (x + y) :: st) (pc + 1)) : zW X S V nc ns al (zI y :: zI x :: st) pc := by
  obtain ⟨p, l, e, R, s, m, args, below, meth, c, D, cy, A, Q, ad0, n0⟩ := X
  obtain ⟨hx, hb, -⟩ := C
  intro ad H locs ls hw hS hL ho
  refine lv_iadd hx hb hd ?_
  rw [← Int32.ofInt_add]
  exact k ad H locs ls hw hS hL ⟨trivial, ho.2.2⟩
theorem a_isub (C : zCX X cc nL own nm rm) (hd : decode cc pc = .ok (.isub, 1)) {x y : Int} (k : zW X S V nc ns al (zI (x - y) :: st) (pc + 1)) : zW X S V nc ns al (zI y :: zI x :: st) pc := by
  obtain ⟨p, l, e, R, s, m, args, below, meth, c, D, cy, A, Q, ad0, n0⟩ := X
  obtain ⟨hx, hb, -⟩ := C
  intro ad H locs ls hw hS hL ho
  refine lv_isub hx hb hd ?_
  rw [← Int32.ofInt_sub]
  exact k ad H locs ls hw hS hL ⟨trivial, ho.2.2⟩
theorem a_imul (C : zCX X cc nL own nm rm) (hd : decode cc pc = .ok (.imul, 1)) {x y : Int} (k : zW X S V nc ns al (zI (x * y) :: st) (pc + 1)) : zW X S V nc ns al (zI y :: zI x :: st) pc := by
  obtain ⟨p, l, e, R, s, m, args, below, meth, c, D, cy, A, Q, ad0, n0⟩ := X
  obtain ⟨hx, hb, -⟩ := C
  intro ad H locs ls hw hS hL ho
  refine lv_imul hx hb hd ?_
  rw [← Int32.ofInt_mul]
  exact k ad H locs ls hw hS hL ⟨trivial, ho.2.2⟩
theorem a_idiv (C : zCX X cc nL own nm rm) (hd : decode cc pc = .ok (.idiv, 1)) {x y : Int} (h : (0 ≤ x ∧ x < 2147483648) ∧ 0 < y ∧ y < 2147483648) (k : zW X S V nc ns al (zI (x / y) :: st) (pc + 1)) : zW X S V nc ns al (zI y :: zI x :: st) pc := by
  obtain ⟨p, l, e, R, s, m, args, below, meth, c, D, cy, A, Q, ad0, n0⟩ := X
  obtain ⟨hx, hb, -⟩ := C
  intro ad H locs ls hw hS hL ho
  refine lv_idiv hx hb hd ?_ ?_
  · rw [← z_0, z_eq ⟨by omega, h.2.2⟩ ⟨by omega, by omega⟩]
    omega
  · rw [z_div h.1.1 h.1.2 h.2.1 h.2.2]
    exact k ad H locs ls hw hS hL ⟨trivial, ho.2.2⟩
theorem a_irem (C : zCX X cc nL own nm rm) (hd : decode cc pc = .ok (.irem, 1)) {x y : Int} (h : (0 ≤ x ∧ x < 2147483648) ∧ 0 < y ∧ y < 2147483648) (k : zW X S V nc ns al (zI (x % y) :: st) (pc + 1)) : zW X S V nc ns al (zI y :: zI x :: st) pc := by
  obtain ⟨p, l, e, R, s, m, args, below, meth, c, D, cy, A, Q, ad0, n0⟩ := X
  obtain ⟨hx, hb, -⟩ := C
  intro ad H locs ls hw hS hL ho
  refine lv_irem hx hb hd ?_ ?_
  · rw [← z_0, z_eq ⟨by omega, h.2.2⟩ ⟨by omega, by omega⟩]
    omega
  · rw [z_mod h.1.1 h.1.2 h.2.1 h.2.2]
    exact k ad H locs ls hw hS hL ⟨trivial, ho.2.2⟩
theorem a_ladd (C : zCX X cc nL own nm rm) (hd : decode cc pc = .ok (.ladd, 1)) {x y : Int} (k : zW X S V nc ns al (zJ (x + y) :: st) (pc + 1)) : zW X S V nc ns al (zJ y :: zJ x :: st) pc := by
  obtain ⟨p, l, e, R, s, m, args, below, meth, c, D, cy, A, Q, ad0, n0⟩ := X
  obtain ⟨hx, hb, -⟩ := C
  intro ad H locs ls hw hS hL ho
  refine lv_ladd hx hb hd ?_
  rw [← Int64.ofInt_add]
  exact k ad H locs ls hw hS hL ⟨trivial, ho.2.2⟩
theorem a_lsub (C : zCX X cc nL own nm rm) (hd : decode cc pc = .ok (.lsub, 1)) {x y : Int} (k : zW X S V nc ns al (zJ (x - y) :: st) (pc + 1)) : zW X S V nc ns al (zJ y :: zJ x :: st) pc := by
  obtain ⟨p, l, e, R, s, m, args, below, meth, c, D, cy, A, Q, ad0, n0⟩ := X
  obtain ⟨hx, hb, -⟩ := C
  intro ad H locs ls hw hS hL ho
  refine lv_lsub hx hb hd ?_
  rw [← Int64.ofInt_sub]
  exact k ad H locs ls hw hS hL ⟨trivial, ho.2.2⟩
theorem a_lmul (C : zCX X cc nL own nm rm) (hd : decode cc pc = .ok (.lmul, 1)) {x y : Int} (k : zW X S V nc ns al (zJ (x * y) :: st) (pc + 1)) : zW X S V nc ns al (zJ y :: zJ x :: st) pc := by
  obtain ⟨p, l, e, R, s, m, args, below, meth, c, D, cy, A, Q, ad0, n0⟩ := X
  obtain ⟨hx, hb, -⟩ := C
  intro ad H locs ls hw hS hL ho
  refine lv_lmul hx hb hd ?_
  rw [← Int64.ofInt_mul]
  exact k ad H locs ls hw hS hL ⟨trivial, ho.2.2⟩
theorem a_ldiv (C : zCX X cc nL own nm rm) (hd : decode cc pc = .ok (.ldiv, 1)) {x y : Int} (h : (0 ≤ x ∧ x < 9223372036854775808) ∧ 0 < y ∧ y < 9223372036854775808) (k : zW X S V nc ns al (zJ (x / y) :: st) (pc + 1)) : zW X S V nc ns al (zJ y :: zJ x :: st) pc := by
  obtain ⟨p, l, e, R, s, m, args, below, meth, c, D, cy, A, Q, ad0, n0⟩ := X
  obtain ⟨hx, hb, -⟩ := C
  intro ad H locs ls hw hS hL ho
  refine lv_ldiv hx hb hd ?_ ?_
  · rw [show (0 : Int64) = Int64.ofInt 0 from rfl, z_eqL ⟨by omega, h.2.2⟩ ⟨by omega, by omega⟩]
    omega
  · rw [z_divL h.1.1 h.1.2 h.2.1 h.2.2]
    exact k ad H locs ls hw hS hL ⟨trivial, ho.2.2⟩
theorem a_lrem (C : zCX X cc nL own nm rm) (hd : decode cc pc = .ok (.lrem, 1)) {x y : Int} (h : (0 ≤ x ∧ x < 9223372036854775808) ∧ 0 < y ∧ y < 9223372036854775808) (k : zW X S V nc ns al (zJ (x % y) :: st) (pc + 1)) : zW X S V nc ns al (zJ y :: zJ x :: st) pc := by
  obtain ⟨p, l, e, R, s, m, args, below, meth, c, D, cy, A, Q, ad0, n0⟩ := X
  obtain ⟨hx, hb, -⟩ := C
  intro ad H locs ls hw hS hL ho
  refine lv_lrem hx hb hd ?_ ?_
  · rw [show (0 : Int64) = Int64.ofInt 0 from rfl, z_eqL ⟨by omega, h.2.2⟩ ⟨by omega, by omega⟩]
    omega
  · rw [z_modL h.1.1 h.1.2 h.2.1 h.2.2]
    exact k ad H locs ls hw hS hL ⟨trivial, ho.2.2⟩
/-- the numbers that stand for x & y, x | y, x ^ y -/
def zand (x y : Int) : Int := (Int32.ofInt x &&& Int32.ofInt y).toInt
def zor (x y : Int) : Int := (Int32.ofInt x ||| Int32.ofInt y).toInt
def zxor (x y : Int) : Int := (Int32.ofInt x ^^^ Int32.ofInt y).toInt
def zandL (x y : Int) : Int := (Int64.ofInt x &&& Int64.ofInt y).toInt
def zshl (x y : Int) : Int := (Int32.ofInt x <<< (Int32.ofInt y &&& 31)).toInt
def zshr (x y : Int) : Int := (Int32.ofInt x >>> (Int32.ofInt y &&& 31)).toInt
theorem a_iand (C : zCX X cc nL own nm rm) (hd : decode cc pc = .ok (.iand, 1)) {x y : Int} (k : zW X S V nc ns al (zI (zand x y) :: st) (pc + 1)) : zW X S V nc ns al (zI y :: zI x :: st) pc := by
  obtain ⟨p, l, e, R, s, m, args, below, meth, c, D, cy, A, Q, ad0, n0⟩ := X
  obtain ⟨hx, hb, -⟩ := C
  intro ad H locs ls hw hS hL ho
  refine lv_iand hx hb hd ?_
  rw [← Int32.ofInt_toInt (Int32.ofInt x &&& Int32.ofInt y)]
  exact k ad H locs ls hw hS hL ⟨trivial, ho.2.2⟩
theorem a_ior (C : zCX X cc nL own nm rm) (hd : decode cc pc = .ok (.ior, 1)) {x y : Int} (k : zW X S V nc ns al (zI (zor x y) :: st) (pc + 1)) : zW X S V nc ns al (zI y :: zI x :: st) pc := by
  obtain ⟨p, l, e, R, s, m, args, below, meth, c, D, cy, A, Q, ad0, n0⟩ := X
  obtain ⟨hx, hb, -⟩ := C
  intro ad H locs ls hw hS hL ho
  refine lv_ior hx hb hd ?_
  rw [← Int32.ofInt_toInt (Int32.ofInt x ||| Int32.ofInt y)]
  exact k ad H locs ls hw hS hL ⟨trivial, ho.2.2⟩
theorem a_ixor (C : zCX X cc nL own nm rm) (hd : decode cc pc = .ok (.ixor, 1)) {x y : Int} (k : zW X S V nc ns al (zI (zxor x y) :: st) (pc + 1)) : zW X S V nc ns al (zI y :: zI x :: st) pc := by
  obtain ⟨p, l, e, R, s, m, args, below, meth, c, D, cy, A, Q, ad0, n0⟩ := X
  obtain ⟨hx, hb, -⟩ := C
  intro ad H locs ls hw hS hL ho
  refine lv_ixor hx hb hd ?_
  rw [← Int32.ofInt_toInt (Int32.ofInt x ^^^ Int32.ofInt y)]
  exact k ad H locs ls hw hS hL ⟨trivial, ho.2.2⟩
theorem a_ishl (C : zCX X cc nL own nm rm) (hd : decode cc pc = .ok (.ishl, 1)) {x y : Int} (k : zW X S V nc ns al (zI (zshl x y) :: st) (pc + 1)) : zW X S V nc ns al (zI y :: zI x :: st) pc := by
  obtain ⟨p, l, e, R, s, m, args, below, meth, c, D, cy, A, Q, ad0, n0⟩ := X
  obtain ⟨hx, hb, -⟩ := C
  intro ad H locs ls hw hS hL ho
  refine lv_ishl hx hb hd ?_
  rw [← Int32.ofInt_toInt (Int32.ofInt x <<< (Int32.ofInt y &&& 31))]
  exact k ad H locs ls hw hS hL ⟨trivial, ho.2.2⟩
theorem a_ishr (C : zCX X cc nL own nm rm) (hd : decode cc pc = .ok (.ishr, 1)) {x y : Int} (k : zW X S V nc ns al (zI (zshr x y) :: st) (pc + 1)) : zW X S V nc ns al (zI y :: zI x :: st) pc := by
  obtain ⟨p, l, e, R, s, m, args, below, meth, c, D, cy, A, Q, ad0, n0⟩ := X
  obtain ⟨hx, hb, -⟩ := C
  intro ad H locs ls hw hS hL ho
  refine lv_ishr hx hb hd ?_
  rw [← Int32.ofInt_toInt (Int32.ofInt x >>> (Int32.ofInt y &&& 31))]
  exact k ad H locs ls hw hS hL ⟨trivial, ho.2.2⟩
theorem a_land (C : zCX X cc nL own nm rm) (hd : decode cc pc = .ok (.land, 1)) {x y : Int} (k : zW X S V nc ns al (zJ (zandL x y) :: st) (pc + 1)) : zW X S V nc ns al (zJ y :: zJ x :: st) pc := by
  obtain ⟨p, l, e, R, s, m, args, below, meth, c, D, cy, A, Q, ad0, n0⟩ := X
  obtain ⟨hx, hb, -⟩ := C
  intro ad H locs ls hw hS hL ho
  refine lv_land hx hb hd ?_
  rw [← Int64.ofInt_toInt (Int64.ofInt x &&& Int64.ofInt y)]
  exact k ad H locs ls hw hS hL ⟨trivial, ho.2.2⟩
theorem z_i2l {x : Int} (h : inR x) : (Int32.ofInt x).toInt64 = Int64.ofInt x := by
  rw [← Int64.toInt_inj, Int32.toInt_toInt64, z_toInt h, z_toIntL ⟨by omega, by omega⟩]
theorem z_l2i (x : Int) : (Int64.ofInt x).toInt32 = Int32.ofInt x := by
  first | exact Int64.toInt32_ofInt | simp
theorem a_i2l (C : zCX X cc nL own nm rm) (hd : decode cc pc = .ok (.i2l, 1)) {x : Int} (h : inR x) (k : zW X S V nc ns al (zJ x :: st) (pc + 1)) : zW X S V nc ns al (zI x :: st) pc := by
  obtain ⟨p, l, e, R, s, m, args, below, meth, c, D, cy, A, Q, ad0, n0⟩ := X
  obtain ⟨hx, hb, -⟩ := C
  intro ad H locs ls hw hS hL ho
  exact lv_i2l hx hb hd (z_i2l h) (k ad H locs ls hw hS hL ⟨trivial, ho.2⟩)
theorem a_l2i (C : zCX X cc nL own nm rm) (hd : decode cc pc = .ok (.l2i, 1)) {x : Int} (k : zW X S V nc ns al (zI x :: st) (pc + 1)) : zW X S V nc ns al (zJ x :: st) pc := by
  obtain ⟨p, l, e, R, s, m, args, below, meth, c, D, cy, A, Q, ad0, n0⟩ := X
  obtain ⟨hx, hb, -⟩ := C
  intro ad H locs ls hw hS hL ho
  exact lv_l2i hx hb hd (z_l2i x) (k ad H locs ls hw hS hL ⟨trivial, ho.2⟩)
/-! constants -/
theorem a_iconst (C : zCX X cc nL own nm rm) {n : Int} (hd : decode cc pc = .ok (.iconst n, 1)) (k : zW X S V nc ns al (zI n :: st) (pc + 1)) : zW X S V nc ns al st pc := by
  obtain ⟨p, l, e, R, s, m, args, below, meth, c, D, cy, A, Q, ad0, n0⟩ := X
  obtain ⟨hx, hb, -⟩ := C
  intro ad H locs ls hw hS hL ho
  exact lv_iconst hx hb hd rfl (k ad H locs ls hw hS hL ⟨trivial, ho⟩)
theorem a_bipush (C : zCX X cc nL own nm rm) {n : Int} (hd : decode cc pc = .ok (.bipush n, 2)) (h : (Int8.ofInt n).toInt32 = Int32.ofInt n) (k : zW X S V nc ns al (zI n :: st) (pc + 2)) : zW X S V nc ns al st pc := by
  obtain ⟨p, l, e, R, s, m, args, below, meth, c, D, cy, A, Q, ad0, n0⟩ := X
  obtain ⟨hx, hb, -⟩ := C
  intro ad H locs ls hw hS hL ho
  exact lv_bipush hx hb hd h (k ad H locs ls hw hS hL ⟨trivial, ho⟩)
theorem a_sipush (C : zCX X cc nL own nm rm) {n : Int} (hd : decode cc pc = .ok (.sipush n, 3)) (h : (Int16.ofInt n).toInt32 = Int32.ofInt n) (k : zW X S V nc ns al (zI n :: st) (pc + 3)) : zW X S V nc ns al st pc := by
  obtain ⟨p, l, e, R, s, m, args, below, meth, c, D, cy, A, Q, ad0, n0⟩ := X
  obtain ⟨hx, hb, -⟩ := C
  intro ad H locs ls hw hS hL ho
  exact lv_sipush hx hb hd h (k ad H locs ls hw hS hL ⟨trivial, ho⟩)
theorem a_lconst (C : zCX X cc nL own nm rm) {n : Fin 2} (v : Int) (hd : decode cc pc = .ok (.lconst n, 1)) (h : Int64.ofNat (n : Nat) = Int64.ofInt v) (k : zW X S V nc ns al (zJ v :: st) (pc + 1)) : zW X S V nc ns al st pc := by
  obtain ⟨p, l, e, R, s, m, args, below, meth, c, D, cy, A, Q, ad0, n0⟩ := X
  obtain ⟨hx, hb, -⟩ := C
  intro ad H locs ls hw hS hL ho
  exact lv_lconst hx hb hd h (k ad H locs ls hw hS hL ⟨trivial, ho⟩)
/-! locals -/
theorem a_iload_n (C : zCX X cc nL own nm rm) {i : Fin 4} {x : Int} (hd : decode cc pc = .ok (.iload_n i, 1)) (h : al[(i : Nat)]? = some (some (zI x))) (k : zW X S V nc ns al (zI x :: st) (pc + 1)) : zW X S V nc ns al st pc := by
  obtain ⟨p, l, e, R, s, m, args, below, meth, c, D, cy, A, Q, ad0, n0⟩ := X
  obtain ⟨hx, hb, -⟩ := C
  intro ad H locs ls hw hS hL ho
  exact lv_iload_n hx hb hd rfl (hL.2.2 _ _ h).2 (k ad H locs ls hw hS hL ⟨trivial, ho⟩)
theorem a_iload (C : zCX X cc nL own nm rm) {i : Nat} {x : Int} (hd : decode cc pc = .ok (.iload i, 2)) (h : al[i]? = some (some (zI x))) (k : zW X S V nc ns al (zI x :: st) (pc + 2)) : zW X S V nc ns al st pc := by
  obtain ⟨p, l, e, R, s, m, args, below, meth, c, D, cy, A, Q, ad0, n0⟩ := X
  obtain ⟨hx, hb, -⟩ := C
  intro ad H locs ls hw hS hL ho
  exact lv_iload hx hb hd (hL.2.2 _ _ h).2 (k ad H locs ls hw hS hL ⟨trivial, ho⟩)
theorem a_lload_n (C : zCX X cc nL own nm rm) {i : Fin 4} {x : Int} (hd : decode cc pc = .ok (.lload_n i, 1)) (h : al[(i : Nat)]? = some (some (zJ x))) (k : zW X S V nc ns al (zJ x :: st) (pc + 1)) : zW X S V nc ns al st pc := by
  obtain ⟨p, l, e, R, s, m, args, below, meth, c, D, cy, A, Q, ad0, n0⟩ := X
  obtain ⟨hx, hb, -⟩ := C
  intro ad H locs ls hw hS hL ho
  exact lv_lload_n hx hb hd rfl (hL.2.2 _ _ h).2 (k ad H locs ls hw hS hL ⟨trivial, ho⟩)
theorem a_lload (C : zCX X cc nL own nm rm) {i : Nat} {x : Int} (hd : decode cc pc = .ok (.lload i, 2)) (h : al[i]? = some (some (zJ x))) (k : zW X S V nc ns al (zJ x :: st) (pc + 2)) : zW X S V nc ns al st pc := by
  obtain ⟨p, l, e, R, s, m, args, below, meth, c, D, cy, A, Q, ad0, n0⟩ := X
  obtain ⟨hx, hb, -⟩ := C
  intro ad H locs ls hw hS hL ho
  exact lv_lload hx hb hd (hL.2.2 _ _ h).2 (k ad H locs ls hw hS hL ⟨trivial, ho⟩)
theorem a_aload_n (C : zCX X cc nL own nm rm) {i : Fin 4} {x : Nat} (hd : decode cc pc = .ok (.aload_n i, 1)) (h : al[(i : Nat)]? = some (some (zR x))) (k : zW X S V nc ns al (zR x :: st) (pc + 1)) : zW X S V nc ns al st pc := by
  obtain ⟨p, l, e, R, s, m, args, below, meth, c, D, cy, A, Q, ad0, n0⟩ := X
  obtain ⟨hx, hb, -⟩ := C
  intro ad H locs ls hw hS hL ho
  exact lv_aload_n hx hb hd rfl (hL.2.2 _ _ h).2 (k ad H locs ls hw hS hL ⟨(hL.2.2 _ _ h).1, ho⟩)
theorem a_aload (C : zCX X cc nL own nm rm) {i x : Nat} (hd : decode cc pc = .ok (.aload i, 2)) (h : al[i]? = some (some (zR x))) (k : zW X S V nc ns al (zR x :: st) (pc + 2)) : zW X S V nc ns al st pc := by
  obtain ⟨p, l, e, R, s, m, args, below, meth, c, D, cy, A, Q, ad0, n0⟩ := X
  obtain ⟨hx, hb, -⟩ := C
  intro ad H locs ls hw hS hL ho
  exact lv_aload hx hb hd (hL.2.2 _ _ h).2 (k ad H locs ls hw hS hL ⟨(hL.2.2 _ _ h).1, ho⟩)
theorem a_istore_n (C : zCX X cc nL own nm rm) {i : Fin 4} {x : Int} (hd : decode cc pc = .ok (.istore_n i, 1)) (hi : (i : Nat) < nL) (k : zW X S V nc ns (st1 al i (zI x)) st (pc + 1)) : zW X S V nc ns al (zI x :: st) pc := by
  obtain ⟨p, l, e, R, s, m, args, below, meth, c, D, cy, A, Q, ad0, n0⟩ := X
  obtain ⟨hx, hb, hml, -⟩ := C
  intro ad H locs ls hw hS hL ho
  exact lv_istore_n hx hb hd rfl (lst_has hL) (by rw [hml]; exact hi) rfl (fun ls' h => k ad H locs ls' hw hS (st1_to (v := zI x) (fun j w hj => (hL.2.2 j w hj).1) trivial h) ho.2)
theorem a_istore (C : zCX X cc nL own nm rm) {i : Nat} {x : Int} (hd : decode cc pc = .ok (.istore i, 2)) (hi : i < nL) (k : zW X S V nc ns (st1 al i (zI x)) st (pc + 2)) : zW X S V nc ns al (zI x :: st) pc := by
  obtain ⟨p, l, e, R, s, m, args, below, meth, c, D, cy, A, Q, ad0, n0⟩ := X
  obtain ⟨hx, hb, hml, -⟩ := C
  intro ad H locs ls hw hS hL ho
  exact lv_istore hx hb hd (lst_has hL) (by rw [hml]; exact hi) rfl (fun ls' h => k ad H locs ls' hw hS (st1_to (v := zI x) (fun j w hj => (hL.2.2 j w hj).1) trivial h) ho.2)
theorem a_lstore_n (C : zCX X cc nL own nm rm) {i : Fin 4} {x : Int} (hd : decode cc pc = .ok (.lstore_n i, 1)) (hi : (i : Nat) + 1 < nL) (k : zW X S V nc ns (st2 al i (zJ x)) st (pc + 1)) : zW X S V nc ns al (zJ x :: st) pc := by
  obtain ⟨p, l, e, R, s, m, args, below, meth, c, D, cy, A, Q, ad0, n0⟩ := X
  obtain ⟨hx, hb, hml, -⟩ := C
  intro ad H locs ls hw hS hL ho
  exact lv_lstore_n hx hb hd rfl (lst_has hL) (by rw [hml]; exact hi) rfl (fun ls' h => k ad H locs ls' hw hS (st2_to (v := zJ x) (fun j w hj => (hL.2.2 j w hj).1) trivial h) ho.2)
theorem a_lstore (C : zCX X cc nL own nm rm) {i : Nat} {x : Int} (hd : decode cc pc = .ok (.lstore i, 2)) (hi : i + 1 < nL) (k : zW X S V nc ns (st2 al i (zJ x)) st (pc + 2)) : zW X S V nc ns al (zJ x :: st) pc := by
  obtain ⟨p, l, e, R, s, m, args, below, meth, c, D, cy, A, Q, ad0, n0⟩ := X
  obtain ⟨hx, hb, hml, -⟩ := C
  intro ad H locs ls hw hS hL ho
  exact lv_lstore hx hb hd (lst_has hL) (by rw [hml]; exact hi) rfl (fun ls' h => k ad H locs ls' hw hS (st2_to (v := zJ x) (fun j w hj => (hL.2.2 j w hj).1) trivial h) ho.2)
theorem a_astore_n (C : zCX X cc nL own nm rm) {i : Fin 4} {x : Nat} (hd : decode cc pc = .ok (.astore_n i, 1)) (hi : (i : Nat) < nL) (k : zW X S V nc ns (st1 al i (zR x)) st (pc + 1)) : zW X S V nc ns al (zR x :: st) pc := by
  obtain ⟨p, l, e, R, s, m, args, below, meth, c, D, cy, A, Q, ad0, n0⟩ := X
  obtain ⟨hx, hb, hml, -⟩ := C
  intro ad H locs ls hw hS hL ho
  exact lv_astore_n hx hb hd rfl (lst_has hL) (by rw [hml]; exact hi) rfl (fun ls' h => k ad H locs ls' hw hS (st1_to (v := zR x) (fun j w hj => (hL.2.2 j w hj).1) ho.1 h) ho.2)
theorem a_iinc (C : zCX X cc nL own nm rm) {i : Nat} {n x : Int} (hd : decode cc pc = .ok (.iinc i n, 3)) (h : al[i]? = some (some (zI x))) (hi : i < nL) (k : zW X S V nc ns (st1 al i (zI (x + n))) st (pc + 3)) : zW X S V nc ns al st pc := by
  obtain ⟨p, l, e, R, s, m, args, below, meth, c, D, cy, A, Q, ad0, n0⟩ := X
  obtain ⟨hx, hb, hml, -⟩ := C
  intro ad H locs ls hw hS hL ho
  obtain ⟨q, hq⟩ := List.getElem?_of_mem (lst_mem (ad := ad) h)
  exact lv_iinc hx hb hd (lst_has hL) hq (Int32.ofInt_add x n).symm (by rw [hml]; exact hi) rfl (fun ls' h => k ad H locs ls' hw hS (st1_to (v := zI (x + n)) (fun j w hj => (hL.2.2 j w hj).1) trivial h) ho)
/-! the stack -/
theorem a_dup (C : zCX X cc nL own nm rm) (hd : decode cc pc = .ok (.dup, 1)) {v : zA} (h : isJv (some v) = false) (k : zW X S V nc ns al (v :: v :: st) (pc + 1)) : zW X S V nc ns al (v :: st) pc := by
  obtain ⟨p, l, e, R, s, m, args, below, meth, c, D, cy, A, Q, ad0, n0⟩ := X
  obtain ⟨hx, hb, -⟩ := C
  intro ad H locs ls hw hS hL ho
  exact lv_dup hx hb hd (by rw [cvv_cat, h]; rfl) (k ad H locs ls hw hS hL ⟨ho.1, ho⟩)
theorem a_pop (C : zCX X cc nL own nm rm) (hd : decode cc pc = .ok (.pop, 1)) {v : zA} (h : isJv (some v) = false) (k : zW X S V nc ns al st (pc + 1)) : zW X S V nc ns al (v :: st) pc := by
  obtain ⟨p, l, e, R, s, m, args, below, meth, c, D, cy, A, Q, ad0, n0⟩ := X
  obtain ⟨hx, hb, -⟩ := C
  intro ad H locs ls hw hS hL ho
  exact lv_pop hx hb hd (by rw [cvv_cat, h]; rfl) (k ad H locs ls hw hS hL ho.2)
theorem a_dup2 (C : zCX X cc nL own nm rm) (hd : decode cc pc = .ok (.dup2, 1)) {v w : zA} (h : isJv (some v) = false) (h2 : isJv (some w) = false) (k : zW X S V nc ns al (v :: w :: v :: w :: st) (pc + 1)) : zW X S V nc ns al (v :: w :: st) pc := by
  obtain ⟨p, l, e, R, s, m, args, below, meth, c, D, cy, A, Q, ad0, n0⟩ := X
  obtain ⟨hx, hb, -⟩ := C
  intro ad H locs ls hw hS hL ho
  exact lv_dup2_11 hx hb hd (by rw [cvv_cat, h]; rfl) (by rw [cvv_cat, h2]; rfl) (k ad H locs ls hw hS hL ⟨ho.1, ho.2.1, ho⟩)
/-! branches -/
theorem a_goto (C : zCX X cc nL own nm rm) {off : Int} (tgt : Nat) (hd : decode cc pc = .ok (.goto off, 3)) (ht : (pc : Int) + off = (tgt : Int)) (k : zW X S V nc ns al st tgt) : zW X S V nc ns al st pc := by
  obtain ⟨p, l, e, R, s, m, args, below, meth, c, D, cy, A, Q, ad0, n0⟩ := X
  obtain ⟨hx, hb, -⟩ := C
  intro ad H locs ls hw hS hL ho
  exact lv_goto hx hb hd ht (k ad H locs ls hw hS hL ho)
theorem z_R0 : inR 0 := ⟨by decide, by decide⟩
theorem a_if_eq (C : zCX X cc nL own nm rm) {x : Int} {off : Int} (tgt : Nat) (hd : decode cc pc = .ok (.ifCond .eq off, 3)) (ht : (pc : Int) + off = (tgt : Int)) (h : inR x) (kt : x = 0 → zW X S V nc ns al st tgt) (kf : ¬ x = 0 → zW X S V nc ns al st (pc + 3)) : zW X S V nc ns al (zI x :: st) pc := by
  obtain ⟨p, l, e, R, s, m, args, below, meth, c, D, cy, A, Q, ad0, n0⟩ := X
  obtain ⟨hx, hb, -⟩ := C
  intro ad H locs ls hw hS hL ho
  exact lv_if_eq hx hb hd ht (fun q => kt ((z_eq h z_R0).mp q) ad H locs ls hw hS hL ho.2) (fun q => kf ((mt (z_eq h z_R0).mpr q)) ad H locs ls hw hS hL ho.2)
theorem a_icmp_eq (C : zCX X cc nL own nm rm) {x y : Int} {off : Int} (tgt : Nat) (hd : decode cc pc = .ok (.if_icmp .eq off, 3)) (ht : (pc : Int) + off = (tgt : Int)) (h : inR x ∧ inR y) (kt : x = y → zW X S V nc ns al st tgt) (kf : ¬ x = y → zW X S V nc ns al st (pc + 3)) : zW X S V nc ns al (zI y :: zI x :: st) pc := by
  obtain ⟨p, l, e, R, s, m, args, below, meth, c, D, cy, A, Q, ad0, n0⟩ := X
  obtain ⟨hx, hb, -⟩ := C
  intro ad H locs ls hw hS hL ho
  exact lv_icmp_eq hx hb hd ht (fun q => kt ((z_eq h.1 h.2).mp q) ad H locs ls hw hS hL ho.2.2) (fun q => kf ((mt (z_eq h.1 h.2).mpr q)) ad H locs ls hw hS hL ho.2.2)
theorem a_if_ne (C : zCX X cc nL own nm rm) {x : Int} {off : Int} (tgt : Nat) (hd : decode cc pc = .ok (.ifCond .ne off, 3)) (ht : (pc : Int) + off = (tgt : Int)) (h : inR x) (kt : ¬ x = 0 → zW X S V nc ns al st tgt) (kf : x = 0 → zW X S V nc ns al st (pc + 3)) : zW X S V nc ns al (zI x :: st) pc := by
  obtain ⟨p, l, e, R, s, m, args, below, meth, c, D, cy, A, Q, ad0, n0⟩ := X
  obtain ⟨hx, hb, -⟩ := C
  intro ad H locs ls hw hS hL ho
  exact lv_if_ne hx hb hd ht (fun q => kt ((mt (z_eq h z_R0).mpr q)) ad H locs ls hw hS hL ho.2) (fun q => kf ((z_eq h z_R0).mp q) ad H locs ls hw hS hL ho.2)
theorem a_icmp_ne (C : zCX X cc nL own nm rm) {x y : Int} {off : Int} (tgt : Nat) (hd : decode cc pc = .ok (.if_icmp .ne off, 3)) (ht : (pc : Int) + off = (tgt : Int)) (h : inR x ∧ inR y) (kt : ¬ x = y → zW X S V nc ns al st tgt) (kf : x = y → zW X S V nc ns al st (pc + 3)) : zW X S V nc ns al (zI y :: zI x :: st) pc := by
  obtain ⟨p, l, e, R, s, m, args, below, meth, c, D, cy, A, Q, ad0, n0⟩ := X
  obtain ⟨hx, hb, -⟩ := C
  intro ad H locs ls hw hS hL ho
  exact lv_icmp_ne hx hb hd ht (fun q => kt ((mt (z_eq h.1 h.2).mpr q)) ad H locs ls hw hS hL ho.2.2) (fun q => kf ((z_eq h.1 h.2).mp q) ad H locs ls hw hS hL ho.2.2)
theorem a_if_lt (C : zCX X cc nL own nm rm) {x : Int} {off : Int} (tgt : Nat) (hd : decode cc pc = .ok (.ifCond .lt off, 3)) (ht : (pc : Int) + off = (tgt : Int)) (h : inR x) (kt : x < 0 → zW X S V nc ns al st tgt) (kf : 0 ≤ x → zW X S V nc ns al st (pc + 3)) : zW X S V nc ns al (zI x :: st) pc := by
  obtain ⟨p, l, e, R, s, m, args, below, meth, c, D, cy, A, Q, ad0, n0⟩ := X
  obtain ⟨hx, hb, -⟩ := C
  intro ad H locs ls hw hS hL ho
  exact lv_if_lt hx hb hd ht (fun q => kt ((z_lt h z_R0).mp q) ad H locs ls hw hS hL ho.2) (fun q => kf ((Int.not_lt.mp (mt (z_lt h z_R0).mpr q))) ad H locs ls hw hS hL ho.2)
theorem a_icmp_lt (C : zCX X cc nL own nm rm) {x y : Int} {off : Int} (tgt : Nat) (hd : decode cc pc = .ok (.if_icmp .lt off, 3)) (ht : (pc : Int) + off = (tgt : Int)) (h : inR x ∧ inR y) (kt : x < y → zW X S V nc ns al st tgt) (kf : y ≤ x → zW X S V nc ns al st (pc + 3)) : zW X S V nc ns al (zI y :: zI x :: st) pc := by
  obtain ⟨p, l, e, R, s, m, args, below, meth, c, D, cy, A, Q, ad0, n0⟩ := X
  obtain ⟨hx, hb, -⟩ := C
  intro ad H locs ls hw hS hL ho
  exact lv_icmp_lt hx hb hd ht (fun q => kt ((z_lt h.1 h.2).mp q) ad H locs ls hw hS hL ho.2.2) (fun q => kf ((Int.not_lt.mp (mt (z_lt h.1 h.2).mpr q))) ad H locs ls hw hS hL ho.2.2)
theorem a_if_ge (C : zCX X cc nL own nm rm) {x : Int} {off : Int} (tgt : Nat) (hd : decode cc pc = .ok (.ifCond .ge off, 3)) (ht : (pc : Int) + off = (tgt : Int)) (h : inR x) (kt : 0 ≤ x → zW X S V nc ns al st tgt) (kf : x < 0 → zW X S V nc ns al st (pc + 3)) : zW X S V nc ns al (zI x :: st) pc := by
  obtain ⟨p, l, e, R, s, m, args, below, meth, c, D, cy, A, Q, ad0, n0⟩ := X
  obtain ⟨hx, hb, -⟩ := C
  intro ad H locs ls hw hS hL ho
  exact lv_if_ge hx hb hd ht (fun q => kt ((z_le z_R0 h).mp q) ad H locs ls hw hS hL ho.2) (fun q => kf ((Int.not_le.mp (mt (z_le z_R0 h).mpr q))) ad H locs ls hw hS hL ho.2)
theorem a_icmp_ge (C : zCX X cc nL own nm rm) {x y : Int} {off : Int} (tgt : Nat) (hd : decode cc pc = .ok (.if_icmp .ge off, 3)) (ht : (pc : Int) + off = (tgt : Int)) (h : inR x ∧ inR y) (kt : y ≤ x → zW X S V nc ns al st tgt) (kf : x < y → zW X S V nc ns al st (pc + 3)) : zW X S V nc ns al (zI y :: zI x :: st) pc := by
  obtain ⟨p, l, e, R, s, m, args, below, meth, c, D, cy, A, Q, ad0, n0⟩ := X
  obtain ⟨hx, hb, -⟩ := C
  intro ad H locs ls hw hS hL ho
  exact lv_icmp_ge hx hb hd ht (fun q => kt ((z_le h.2 h.1).mp q) ad H locs ls hw hS hL ho.2.2) (fun q => kf ((Int.not_le.mp (mt (z_le h.2 h.1).mpr q))) ad H locs ls hw hS hL ho.2.2)
theorem a_if_gt (C : zCX X cc nL own nm rm) {x : Int} {off : Int} (tgt : Nat) (hd : decode cc pc = .ok (.ifCond .gt off, 3)) (ht : (pc : Int) + off = (tgt : Int)) (h : inR x) (kt : 0 < x → zW X S V nc ns al st tgt) (kf : x ≤ 0 → zW X S V nc ns al st (pc + 3)) : zW X S V nc ns al (zI x :: st) pc := by
  obtain ⟨p, l, e, R, s, m, args, below, meth, c, D, cy, A, Q, ad0, n0⟩ := X
  obtain ⟨hx, hb, -⟩ := C
  intro ad H locs ls hw hS hL ho
  exact lv_if_gt hx hb hd ht (fun q => kt ((z_lt z_R0 h).mp q) ad H locs ls hw hS hL ho.2) (fun q => kf ((Int.not_lt.mp (mt (z_lt z_R0 h).mpr q))) ad H locs ls hw hS hL ho.2)
theorem a_icmp_gt (C : zCX X cc nL own nm rm) {x y : Int} {off : Int} (tgt : Nat) (hd : decode cc pc = .ok (.if_icmp .gt off, 3)) (ht : (pc : Int) + off = (tgt : Int)) (h : inR x ∧ inR y) (kt : y < x → zW X S V nc ns al st tgt) (kf : x ≤ y → zW X S V nc ns al st (pc + 3)) : zW X S V nc ns al (zI y :: zI x :: st) pc := by
  obtain ⟨p, l, e, R, s, m, args, below, meth, c, D, cy, A, Q, ad0, n0⟩ := X
  obtain ⟨hx, hb, -⟩ := C
  intro ad H locs ls hw hS hL ho
  exact lv_icmp_gt hx hb hd ht (fun q => kt ((z_lt h.2 h.1).mp q) ad H locs ls hw hS hL ho.2.2) (fun q => kf ((Int.not_lt.mp (mt (z_lt h.2 h.1).mpr q))) ad H locs ls hw hS hL ho.2.2)
theorem a_if_le (C : zCX X cc nL own nm rm) {x : Int} {off : Int} (tgt : Nat) (hd : decode cc pc = .ok (.ifCond .le off, 3)) (ht : (pc : Int) + off = (tgt : Int)) (h : inR x) (kt : x ≤ 0 → zW X S V nc ns al st tgt) (kf : 0 < x → zW X S V nc ns al st (pc + 3)) : zW X S V nc ns al (zI x :: st) pc := by
  obtain ⟨p, l, e, R, s, m, args, below, meth, c, D, cy, A, Q, ad0, n0⟩ := X
  obtain ⟨hx, hb, -⟩ := C
  intro ad H locs ls hw hS hL ho
  exact lv_if_le hx hb hd ht (fun q => kt ((z_le h z_R0).mp q) ad H locs ls hw hS hL ho.2) (fun q => kf ((Int.not_le.mp (mt (z_le h z_R0).mpr q))) ad H locs ls hw hS hL ho.2)
theorem a_icmp_le (C : zCX X cc nL own nm rm) {x y : Int} {off : Int} (tgt : Nat) (hd : decode cc pc = .ok (.if_icmp .le off, 3)) (ht : (pc : Int) + off = (tgt : Int)) (h : inR x ∧ inR y) (kt : x ≤ y → zW X S V nc ns al st tgt) (kf : y < x → zW X S V nc ns al st (pc + 3)) : zW X S V nc ns al (zI y :: zI x :: st) pc := by
  obtain ⟨p, l, e, R, s, m, args, below, meth, c, D, cy, A, Q, ad0, n0⟩ := X
  obtain ⟨hx, hb, -⟩ := C
  intro ad H locs ls hw hS hL ho
  exact lv_icmp_le hx hb hd ht (fun q => kt ((z_le h.1 h.2).mp q) ad H locs ls hw hS hL ho.2.2) (fun q => kf ((Int.not_le.mp (mt (z_le h.1 h.2).mpr q))) ad H locs ls hw hS hL ho.2.2)
/-- which of two longs is the greater -/
theorem z_lcmp_lt {x y : Int} (hx : inL x) (hy : inL y) : lg_cmp (Int64.ofInt x) (Int64.ofInt y) < 0 ↔ x < y := by
  unfold lg_cmp
  simp only [gt_iff_lt, z_ltL hy hx, z_eqL hx hy]
  by_cases h1 : y < x
  · rw [if_pos h1]
    constructor
    · intro h; exact absurd h (by decide)
    · intro h; omega
  · rw [if_neg h1]
    by_cases h2 : x = y
    · rw [if_pos h2]
      constructor
      · intro h; exact absurd h (by decide)
      · intro h; omega
    · rw [if_neg h2]
      constructor
      · intro _; omega
      · intro _; decide
theorem z_lcmp_gt {x y : Int} (hx : inL x) (hy : inL y) : 0 < lg_cmp (Int64.ofInt x) (Int64.ofInt y) ↔ y < x := by
  unfold lg_cmp
  simp only [gt_iff_lt, z_ltL hy hx, z_eqL hx hy]
  by_cases h1 : y < x
  · rw [if_pos h1]
    constructor
    · intro _; exact h1
    · intro _; decide
  · rw [if_neg h1]
    by_cases h2 : x = y
    · rw [if_pos h2]
      constructor
      · intro h; exact absurd h (by decide)
      · intro h; omega
    · rw [if_neg h2]
      constructor
      · intro h; exact absurd h (by decide)
      · intro h; omega
theorem z_lcmp_eq {x y : Int} (hx : inL x) (hy : inL y) : lg_cmp (Int64.ofInt x) (Int64.ofInt y) = 0 ↔ x = y := by
  unfold lg_cmp
  simp only [gt_iff_lt, z_ltL hy hx, z_eqL hx hy]
  by_cases h1 : y < x
  · rw [if_pos h1]
    constructor
    · intro h; exact absurd h (by decide)
    · intro h; omega
  · rw [if_neg h1]
    by_cases h2 : x = y
    · rw [if_pos h2]
      exact ⟨fun _ => h2, fun _ => rfl⟩
    · rw [if_neg h2]
      constructor
      · intro h; exact absurd h (by decide)
      · intro h; exact absurd h h2
theorem a_lcmp_eq (C : zCX X cc nL own nm rm) {x y : Int} {off : Int} (tgt : Nat) (hd0 : decode cc pc = .ok (.lcmp, 1)) (hd : decode cc (pc + 1) = .ok (.ifCond .eq off, 3)) (ht : ((pc + 1 : Nat) : Int) + off = (tgt : Int)) (h : inL x ∧ inL y) (kt : x = y → zW X S V nc ns al st tgt) (kf : ¬ x = y → zW X S V nc ns al st (pc + 1 + 3)) : zW X S V nc ns al (zJ y :: zJ x :: st) pc := by
  obtain ⟨p, l, e, R, s, m, args, below, meth, c, D, cy, A, Q, ad0, n0⟩ := X
  obtain ⟨hx, hb, -⟩ := C
  intro ad H locs ls hw hS hL ho
  refine W.lcmp hx hb hd0 ?_
  exact lv_if_eq hx hb hd ht (fun q => kt ((z_lcmp_eq h.1 h.2).mp q) ad H locs ls hw hS hL ho.2.2) (fun q => kf ((mt (z_lcmp_eq h.1 h.2).mpr q)) ad H locs ls hw hS hL ho.2.2)
theorem a_lcmp_ne (C : zCX X cc nL own nm rm) {x y : Int} {off : Int} (tgt : Nat) (hd0 : decode cc pc = .ok (.lcmp, 1)) (hd : decode cc (pc + 1) = .ok (.ifCond .ne off, 3)) (ht : ((pc + 1 : Nat) : Int) + off = (tgt : Int)) (h : inL x ∧ inL y) (kt : ¬ x = y → zW X S V nc ns al st tgt) (kf : x = y → zW X S V nc ns al st (pc + 1 + 3)) : zW X S V nc ns al (zJ y :: zJ x :: st) pc := by
  obtain ⟨p, l, e, R, s, m, args, below, meth, c, D, cy, A, Q, ad0, n0⟩ := X
  obtain ⟨hx, hb, -⟩ := C
  intro ad H locs ls hw hS hL ho
  refine W.lcmp hx hb hd0 ?_
  exact lv_if_ne hx hb hd ht (fun q => kt ((mt (z_lcmp_eq h.1 h.2).mpr q)) ad H locs ls hw hS hL ho.2.2) (fun q => kf ((z_lcmp_eq h.1 h.2).mp q) ad H locs ls hw hS hL ho.2.2)
theorem a_lcmp_lt (C : zCX X cc nL own nm rm) {x y : Int} {off : Int} (tgt : Nat) (hd0 : decode cc pc = .ok (.lcmp, 1)) (hd : decode cc (pc + 1) = .ok (.ifCond .lt off, 3)) (ht : ((pc + 1 : Nat) : Int) + off = (tgt : Int)) (h : inL x ∧ inL y) (kt : x < y → zW X S V nc ns al st tgt) (kf : y ≤ x → zW X S V nc ns al st (pc + 1 + 3)) : zW X S V nc ns al (zJ y :: zJ x :: st) pc := by
  obtain ⟨p, l, e, R, s, m, args, below, meth, c, D, cy, A, Q, ad0, n0⟩ := X
  obtain ⟨hx, hb, -⟩ := C
  intro ad H locs ls hw hS hL ho
  refine W.lcmp hx hb hd0 ?_
  exact lv_if_lt hx hb hd ht (fun q => kt ((z_lcmp_lt h.1 h.2).mp q) ad H locs ls hw hS hL ho.2.2) (fun q => kf (Int.not_lt.mp (mt (z_lcmp_lt h.1 h.2).mpr q)) ad H locs ls hw hS hL ho.2.2)
theorem a_lcmp_ge (C : zCX X cc nL own nm rm) {x y : Int} {off : Int} (tgt : Nat) (hd0 : decode cc pc = .ok (.lcmp, 1)) (hd : decode cc (pc + 1) = .ok (.ifCond .ge off, 3)) (ht : ((pc + 1 : Nat) : Int) + off = (tgt : Int)) (h : inL x ∧ inL y) (kt : y ≤ x → zW X S V nc ns al st tgt) (kf : x < y → zW X S V nc ns al st (pc + 1 + 3)) : zW X S V nc ns al (zJ y :: zJ x :: st) pc := by
  obtain ⟨p, l, e, R, s, m, args, below, meth, c, D, cy, A, Q, ad0, n0⟩ := X
  obtain ⟨hx, hb, -⟩ := C
  intro ad H locs ls hw hS hL ho
  refine W.lcmp hx hb hd0 ?_
  exact lv_if_ge hx hb hd ht (fun q => kt (Int.not_lt.mp (mt (z_lcmp_lt h.1 h.2).mpr (Int32.not_lt.mpr q))) ad H locs ls hw hS hL ho.2.2) (fun q => kf ((z_lcmp_lt h.1 h.2).mp (Int32.not_le.mp q)) ad H locs ls hw hS hL ho.2.2)
theorem a_lcmp_gt (C : zCX X cc nL own nm rm) {x y : Int} {off : Int} (tgt : Nat) (hd0 : decode cc pc = .ok (.lcmp, 1)) (hd : decode cc (pc + 1) = .ok (.ifCond .gt off, 3)) (ht : ((pc + 1 : Nat) : Int) + off = (tgt : Int)) (h : inL x ∧ inL y) (kt : y < x → zW X S V nc ns al st tgt) (kf : x ≤ y → zW X S V nc ns al st (pc + 1 + 3)) : zW X S V nc ns al (zJ y :: zJ x :: st) pc := by
  obtain ⟨p, l, e, R, s, m, args, below, meth, c, D, cy, A, Q, ad0, n0⟩ := X
  obtain ⟨hx, hb, -⟩ := C
  intro ad H locs ls hw hS hL ho
  refine W.lcmp hx hb hd0 ?_
  exact lv_if_gt hx hb hd ht (fun q => kt ((z_lcmp_gt h.1 h.2).mp q) ad H locs ls hw hS hL ho.2.2) (fun q => kf (Int.not_lt.mp (mt (z_lcmp_gt h.1 h.2).mpr q)) ad H locs ls hw hS hL ho.2.2)
theorem a_lcmp_le (C : zCX X cc nL own nm rm) {x y : Int} {off : Int} (tgt : Nat) (hd0 : decode cc pc = .ok (.lcmp, 1)) (hd : decode cc (pc + 1) = .ok (.ifCond .le off, 3)) (ht : ((pc + 1 : Nat) : Int) + off = (tgt : Int)) (h : inL x ∧ inL y) (kt : x ≤ y → zW X S V nc ns al st tgt) (kf : y < x → zW X S V nc ns al st (pc + 1 + 3)) : zW X S V nc ns al (zJ y :: zJ x :: st) pc := by
  obtain ⟨p, l, e, R, s, m, args, below, meth, c, D, cy, A, Q, ad0, n0⟩ := X
  obtain ⟨hx, hb, -⟩ := C
  intro ad H locs ls hw hS hL ho
  refine W.lcmp hx hb hd0 ?_
  exact lv_if_le hx hb hd ht (fun q => kt (Int.not_lt.mp (mt (z_lcmp_gt h.1 h.2).mpr (Int32.not_lt.mpr q))) ad H locs ls hw hS hL ho.2.2) (fun q => kf ((z_lcmp_gt h.1 h.2).mp (Int32.not_le.mp q)) ad H locs ls hw hS hL ho.2.2)
theorem a_tswIn (C : zCX X cc nL own nm rm) {x : Int} {dflt lo hi off : Int} {offs : Array Int} {len : Nat} (i : Nat) (tgt : Nat) (hd : decode cc pc = .ok (.tableswitch dflt lo hi offs, len)) (hx0 : x = lo + i) (hr : inR x) (h2 : lo + i ≤ hi) (ho0 : offs[i]? = some off) (ht : (pc : Int) + off = (tgt : Int)) (k : zW X S V nc ns al st tgt) : zW X S V nc ns al (zI x :: st) pc := by
  obtain ⟨p, l, e, R, s, m, args, below, meth, c, D, cy, A, Q, ad0, n0⟩ := X
  obtain ⟨hx, hb, -⟩ := C
  intro ad H locs ls hw hS hL ho
  exact lv_tableIn hx hb hd (by rw [z_toInt hr]; omega) (by rw [z_toInt hr]; omega) (by rw [z_toInt hr, hx0, show (lo + (i : Int) - lo).toNat = i by omega]; exact ho0) ht (k ad H locs ls hw hS hL ho.2)
theorem a_tswOut (C : zCX X cc nL own nm rm) {x : Int} {dflt lo hi : Int} {offs : Array Int} {len : Nat} (tgt : Nat) (hd : decode cc pc = .ok (.tableswitch dflt lo hi offs, len)) (hr : inR x) (h : x < lo ∨ hi < x) (ht : (pc : Int) + dflt = (tgt : Int)) (k : zW X S V nc ns al st tgt) : zW X S V nc ns al (zI x :: st) pc := by
  obtain ⟨p, l, e, R, s, m, args, below, meth, c, D, cy, A, Q, ad0, n0⟩ := X
  obtain ⟨hx, hb, -⟩ := C
  intro ad H locs ls hw hS hL ho
  exact lv_tableOut hx hb hd (by rw [z_toInt hr]; exact h) ht (k ad H locs ls hw hS hL ho.2)
/-- fewer locals are told -/
theorem a_wk {al' : List (Option zA)} (h : ∀ (i : Nat) (v : zA), al'[i]? = some (some v) → al[i]? = some (some v)) (k : zW X S V nc ns al' st pc) : zW X S V nc ns al st pc := by
  obtain ⟨p, l, e, R, s, m, args, below, meth, c, D, cy, A, Q, ad0, n0⟩ := X
  intro ad H locs ls hw hS hL ho
  exact k ad H locs ls hw hS ⟨hL.1, hL.2.1, fun i v hi => hL.2.2 i v (h i v hi)⟩ ho
def lsub : List (Option zA) → List (Option zA) → Prop
  | [], _ => True
  | none :: a, b => lsub a b.tail
  | some v :: a, b => b.head? = some (some v) ∧ lsub a b.tail
theorem lsub_to : ∀ {a b : List (Option zA)}, lsub a b → ∀ (i : Nat) (v : zA), a[i]? = some (some v) → b[i]? = some (some v)
  | [], b, _, i, v, h => by simp at h
  | none :: a, b, hl, i, v, h => by
    cases i with
    | zero => simp at h
    | succ i =>
      have := lsub_to (a := a) (b := b.tail) hl i v (by simpa using h)
      cases b with
      | nil => simp at this
      | cons x b => simpa using this
  | some w :: a, b, hl, i, v, h => by
    cases i with
    | zero =>
      simp at h
      subst h
      cases b with
      | nil => simp [lsub] at hl
      | cons x b => simpa using hl.1
    | succ i =>
      have := lsub_to (a := a) (b := b.tail) hl.2 i v (by simpa using h)
      cases b with
      | nil => simp at this
      | cons x b => simpa using this
theorem a_ls {al' : List (Option zA)} (h : lsub al' al) (k : zW X S V nc ns al' st pc) : zW X S V nc ns al st pc := a_wk (lsub_to h) k
end ZR
end
section
/-! ===== fields and arrays ===== -/
def zF (own : String) (idx tag k : Nat) (ty : FieldType) (fin : Bool) : Prop := ∃ (C : String) (T : u_T) (N : Nat) (ty0 : Nat → FieldType), vwCl[tag]? = some (C, T, N) ∧ (∀ w ∈ u_ws C T N, w ∈ TB) ∧ k < N ∧ Cond.fieldLink own idx (T k).1 (T k).2.1 (T k).2.2.1 ∈ TB ∧ (∀ k, k < N → parseFieldDescriptor (T k).2.2.1 = some (ty0 k)) ∧ (∀ a, a < N → ∀ b, b < N → a ≠ b → (T a).2.1 ≠ (T b).2.1) ∧ ty0 k = ty ∧ (T k).2.2.2 = fin ∧ (fkt tag).length = N ∧ tag < 13
theorem cE_obj {ad : Nat → Nat} {cy : Nat → ClassId} {f : Nat → Int} {sc : zC} (h : sc.1 < 13) : cE ad cy f sc = .inr (sc.1, fvals ad f sc) := if_pos h
theorem fvals_at {ad : Nat → Nat} {f : Nat → Int} {sc : zC} {k kd : Nat} (h : (fkt sc.1)[k]? = some kd) : (fvals ad f sc)[k]? = some (fval ad f sc kd k) := by
  unfold fvals
  rw [List.getElem?_mapIdx, h]
  rfl
theorem fvals_len (ad : Nat → Nat) (f : Nat → Int) (sc : zC) : (fvals ad f sc).length = (fkt sc.1).length := by simp [fvals]
theorem fvals_set {ad : Nat → Nat} {f f' : Nat → Int} {sc sc' : zC} {k kd : Nat} {v : Value} (ht : sc'.1 = sc.1) (h : (fkt sc.1)[k]? = some kd) (hv : fval ad f' sc' kd k = v) (ho : ∀ j kj, (fkt sc.1)[j]? = some kj → j ≠ k → fval ad f' sc' kj j = fval ad f sc kj j) : (fvals ad f sc).set k v = fvals ad f' sc' := by
  have hl := (List.getElem?_eq_some_iff.mp h).1
  apply List.ext_getElem?
  intro j
  by_cases hj : j = k
  · subst hj
    rw [List.getElem?_set_self (by rw [fvals_len]; exact hl), fvals_at (kd := kd) (by rw [ht]; exact h), hv]
  · rw [List.getElem?_set_ne (Ne.symm hj)]
    unfold fvals
    rw [List.getElem?_mapIdx, List.getElem?_mapIdx, ht]
    cases hk : (fkt sc.1)[j]? with
    | none => rfl
    | some kj => rw [Option.map_some, Option.map_some, ho j kj hk hj]
theorem inC_int {t k : Nat} {x : Int} (ht : t < 13) (hk : (fkt t)[k]? = some 0) : inC t k x ↔ inR x := by
  have h1 : ¬ (t = 15 ∨ (t = 7 ∧ k = 1) ∨ (t = 12 ∧ k = 25)) := by
    rintro (h | ⟨h, h'⟩ | ⟨h, h'⟩)
    · omega
    · subst h; subst h'; exact absurd hk (by decide)
    · subst h; subst h'; exact absurd hk (by decide)
  unfold inC
  rw [if_neg h1, if_neg (by omega)]
theorem inC_long {t k : Nat} {x : Int} (ht : t < 13) (hk : (fkt t)[k]? = some 1) : inC t k x ↔ inL x := by
  have h1 : t = 15 ∨ (t = 7 ∧ k = 1) ∨ (t = 12 ∧ k = 25) := by
    rcases (show t = 0 ∨ t = 1 ∨ t = 2 ∨ t = 3 ∨ t = 4 ∨ t = 5 ∨ t = 6 ∨ t = 7 ∨ t = 8 ∨ t = 9 ∨ t = 10 ∨ t = 11 ∨ t = 12 by omega) with rfl | rfl | rfl | rfl | rfl | rfl | rfl | rfl | rfl | rfl | rfl | rfl | rfl
    all_goals
      have hl := (List.getElem?_eq_some_iff.mp hk).1
      revert hk
      revert hl
      revert k
      decide
  unfold inC
  rw [if_pos h1]
section ZF
variable {X : zM} {cc : ByteArray} {nL : Nat} {own nm : String} {rm : Room} {S : List zC} {V : zV} {nc ns pc : Nat} {al : List (Option zA)} {st : List zA} {idx tag k o : Nat} {ty : FieldType} {fin : Bool} {w : Int} {rf : Nat → Option Nat}
theorem a_getI (C : zCX X cc nL own nm rm) (F : zF own idx tag k ty fin) (hs : S[o]? = some (tag, w, rf)) (hk : (fkt tag)[k]? = some 0) (hd : decode cc pc = .ok (.getfield idx, 3)) (kk : inR (V o k) → zW X S V nc ns al (zI (V o k) :: st) (pc + 3)) : zW X S V nc ns al (zR o :: st) pc := by
  obtain ⟨p, l, e, R, s, m, args, below, meth, c, D, cy, A, Q, ad0, n0⟩ := X
  obtain ⟨hx, hb, hml, hown, hts, hlk, hK, -⟩ := C
  obtain ⟨Cn, T, N, ty0, f1, f2, f3, f4, f5, f6, f7, f8, f9, f10⟩ := F
  intro ad H locs ls hw hS hL ho
  have he := wsW_at (ad := ad) (cy := cy) (V := V) hs
  rw [cE_obj f10] at he
  have hv : fval ad (V o) (tag, w, rf) 0 k = .int (Int32.ofInt (V o k)) := rfl
  exact va_get hx hb hts f2 hown hK.1 hw.1 o he f1 k f3 (hts _ f4) (fun _ q => q) (fvals_at (sc := (tag, w, rf)) hk) hd (kk ((inC_int f10 hk).mp (hw.2.2.2.1 o _ hs k)) ad H locs ls hw hS hL ⟨trivial, ho.2⟩)
theorem a_getJ (C : zCX X cc nL own nm rm) (F : zF own idx tag k ty fin) (hs : S[o]? = some (tag, w, rf)) (hk : (fkt tag)[k]? = some 1) (hd : decode cc pc = .ok (.getfield idx, 3)) (kk : inL (V o k) → zW X S V nc ns al (zJ (V o k) :: st) (pc + 3)) : zW X S V nc ns al (zR o :: st) pc := by
  obtain ⟨p, l, e, R, s, m, args, below, meth, c, D, cy, A, Q, ad0, n0⟩ := X
  obtain ⟨hx, hb, hml, hown, hts, hlk, hK, -⟩ := C
  obtain ⟨Cn, T, N, ty0, f1, f2, f3, f4, f5, f6, f7, f8, f9, f10⟩ := F
  intro ad H locs ls hw hS hL ho
  have he := wsW_at (ad := ad) (cy := cy) (V := V) hs
  rw [cE_obj f10] at he
  exact va_get hx hb hts f2 hown hK.1 hw.1 o he f1 k f3 (hts _ f4) (fun _ q => q) (fvals_at (sc := (tag, w, rf)) hk) hd (kk ((inC_long f10 hk).mp (hw.2.2.2.1 o _ hs k)) ad H locs ls hw hS hL ⟨trivial, ho.2⟩)
theorem a_getR (C : zCX X cc nL own nm rm) (F : zF own idx tag k ty fin) (hs : S[o]? = some (tag, w, rf)) (hk : (fkt tag)[k]? = some 2) {r : Nat} (hr : rf k = some r) (hd : decode cc pc = .ok (.getfield idx, 3)) (kk : zW X S V nc ns al (zR r :: st) (pc + 3)) : zW X S V nc ns al (zR o :: st) pc := by
  obtain ⟨p, l, e, R, s, m, args, below, meth, c, D, cy, A, Q, ad0, n0⟩ := X
  obtain ⟨hx, hb, hml, hown, hts, hlk, hK, -⟩ := C
  obtain ⟨Cn, T, N, ty0, f1, f2, f3, f4, f5, f6, f7, f8, f9, f10⟩ := F
  intro ad H locs ls hw hS hL ho
  have he := wsW_at (ad := ad) (cy := cy) (V := V) hs
  rw [cE_obj f10] at he
  have hv : fval ad (V o) (tag, w, rf) 2 k = .ref (ad r) := by
    show va_rf ((rf k).map ad) = _
    rw [hr]
    rfl
  exact va_get hx hb hts f2 hown hK.1 hw.1 o he f1 k f3 (hts _ f4) (fun _ q => q) ((fvals_at (sc := (tag, w, rf)) hk).trans (congrArg some hv)) hd (kk ad H locs ls hw hS hL ⟨Or.inl (hw.2.2.1 o _ hs k r hr), ho.2⟩)
/-- a feud's worth -/
theorem a_getW (C : zCX X cc nL own nm rm) (F : zF own idx tag k ty fin) (hs : S[o]? = some (tag, w, rf)) (hk : (fkt tag)[k]? = some 3) (hd : decode cc pc = .ok (.getfield idx, 3)) (kk : zW X S V nc ns al (zI w :: st) (pc + 3)) : zW X S V nc ns al (zR o :: st) pc := by
  obtain ⟨p, l, e, R, s, m, args, below, meth, c, D, cy, A, Q, ad0, n0⟩ := X
  obtain ⟨hx, hb, hml, hown, hts, hlk, hK, -⟩ := C
  obtain ⟨Cn, T, N, ty0, f1, f2, f3, f4, f5, f6, f7, f8, f9, f10⟩ := F
  intro ad H locs ls hw hS hL ho
  have he := wsW_at (ad := ad) (cy := cy) (V := V) hs
  rw [cE_obj f10] at he
  exact va_get hx hb hts f2 hown hK.1 hw.1 o he f1 k f3 (hts _ f4) (fun _ q => q) (fvals_at (sc := (tag, w, rf)) hk) hd (kk ad H locs ls hw hS hL ⟨trivial, ho.2⟩)
theorem a_putI (C : zCX X cc nL own nm rm) (F : zF own idx tag k ty false) (hty : ty = .int ∨ ty = .boolean) (hs : S[o]? = some (tag, w, rf)) (hk : (fkt tag)[k]? = some 0) (hd : decode cc pc = .ok (.putfield idx, 3)) {x : Int} (h : inR x ∧ (ty = .boolean → x = 0 ∨ x = 1)) (kk : zW X S (vset V o k x) nc ns al st (pc + 3)) : zW X S V nc ns al (zI x :: zR o :: st) pc := by
  obtain ⟨p, l, e, R, s, m, args, below, meth, c, D, cy, A, Q, ad0, n0⟩ := X
  obtain ⟨hx, hb, hml, hown, hts, hlk, hK, -⟩ := C
  obtain ⟨Cn, T, N, ty0, f1, f2, f3, f4, f5, f6, f7, f8, f9, f10⟩ := F
  intro ad H locs ls hw hS hL ho
  have he := wsW_at (ad := ad) (cy := cy) (V := V) hs
  rw [cE_obj f10] at he
  have hset : (fvals ad (V o) (tag, w, rf)).set k (.int (Int32.ofInt x)) = fvals ad (ups (V o) k x) (tag, w, rf) := by
    refine fvals_set rfl hk ?_ (fun j kj _ hj => ?_)
    · show Value.int (Int32.ofInt (ups (V o) k x k)) = _
      rw [ups_s]
    · unfold fval
      rw [ups_n hj]
  have hd0 : parseFieldDescriptor (T k).2.2.1 = some ty := by rw [f5 k f3, f7]
  have hnar : narrow ty (.int (Int32.ofInt x)) = .int (Int32.ofInt x) := by
    rcases hty with rfl | rfl
    · rfl
    · rcases h.2 rfl with rfl | rfl <;> rfl
  have hfit : fits ty (.int (Int32.ofInt x)) = true := by
    rcases hty with rfl | rfl
    · rfl
    · rcases h.2 rfl with rfl | rfl <;> rfl
  refine va_put hx hb hts f2 ty0 f5 f6 hown hK.1 hw.1 hw.2.1 hS o he f1 k f3 (hts _ f4) (fun _ q => q) f8 hd0 hnar hfit (by rw [fvals_len, f9]; exact f3) hd (fun H1 locs1 hP1 hD1 hS1 => ?_)
  have hws : (wsW ad cy S V).set o (ad o, .inr (tag, (fvals ad (V o) (tag, w, rf)).set k (.int (Int32.ofInt x)))) = wsW ad cy S (vset V o k x) := by
    rw [hset, ← wsW_setV (V' := vset V o k x) hs (fun c' hc => vrow_n hc), cE_obj f10, show vset V o k x o = ups (V o) k x from vrow_s _ _ _]
  have hP1 := (congrArg (fun z => va_P D vwCl z H1) hws).mp hP1
  have hD1 := (congrArg (fun z => va_D A z) hws).mp hD1
  exact kk ad H1 locs1 ls ⟨hP1, hD1, hw.2.2.1, inV_set hw.2.2.2.1 hs ((inC_int f10 hk).mpr h.1), hw.2.2.2.2⟩ hS1 hL ho.2.2
theorem a_putJ (C : zCX X cc nL own nm rm) (F : zF own idx tag k .long false) (hs : S[o]? = some (tag, w, rf)) (hk : (fkt tag)[k]? = some 1) (hd : decode cc pc = .ok (.putfield idx, 3)) {x : Int} (h : inL x) (kk : zW X S (vset V o k x) nc ns al st (pc + 3)) : zW X S V nc ns al (zJ x :: zR o :: st) pc := by
  obtain ⟨p, l, e, R, s, m, args, below, meth, c, D, cy, A, Q, ad0, n0⟩ := X
  obtain ⟨hx, hb, hml, hown, hts, hlk, hK, -⟩ := C
  obtain ⟨Cn, T, N, ty0, f1, f2, f3, f4, f5, f6, f7, f8, f9, f10⟩ := F
  intro ad H locs ls hw hS hL ho
  have he := wsW_at (ad := ad) (cy := cy) (V := V) hs
  rw [cE_obj f10] at he
  have hset : (fvals ad (V o) (tag, w, rf)).set k (.long (Int64.ofInt x)) = fvals ad (ups (V o) k x) (tag, w, rf) := by
    refine fvals_set rfl hk ?_ (fun j kj _ hj => ?_)
    · show Value.long (Int64.ofInt (ups (V o) k x k)) = _
      rw [ups_s]
    · unfold fval
      rw [ups_n hj]
  have hd0 : parseFieldDescriptor (T k).2.2.1 = some .long := by rw [f5 k f3, f7]
  refine va_put hx hb hts f2 ty0 f5 f6 hown hK.1 hw.1 hw.2.1 hS o he f1 k f3 (hts _ f4) (fun _ q => q) f8 hd0 rfl rfl (by rw [fvals_len, f9]; exact f3) hd (fun H1 locs1 hP1 hD1 hS1 => ?_)
  have hws : (wsW ad cy S V).set o (ad o, .inr (tag, (fvals ad (V o) (tag, w, rf)).set k (.long (Int64.ofInt x)))) = wsW ad cy S (vset V o k x) := by
    rw [hset, ← wsW_setV (V' := vset V o k x) hs (fun c' hc => vrow_n hc), cE_obj f10, show vset V o k x o = ups (V o) k x from vrow_s _ _ _]
  have hP1 := (congrArg (fun z => va_P D vwCl z H1) hws).mp hP1
  have hD1 := (congrArg (fun z => va_D A z) hws).mp hD1
  exact kk ad H1 locs1 ls ⟨hP1, hD1, hw.2.2.1, inV_set hw.2.2.2.1 hs ((inC_long f10 hk).mpr h), hw.2.2.2.2⟩ hS1 hL ho.2.2
/-- a final reference field, in its constructor -/
theorem a_putR (C : zCX X cc nL own "<init>" rm) (F : zF own idx tag k ty true) (hc0 : ∃ T N, vwCl[tag]? = some (own, T, N) ∧ (T k).1 = own) (hty : (∃ n, ty = .object n) ∨ ∃ t, ty = .array t) (hs : S[o]? = some (tag, w, rf)) (hk : (fkt tag)[k]? = some 2) (hd : decode cc pc = .ok (.putfield idx, 3)) {r : Nat} (hr : r < S.length) (kk : zW X (S.set o (tag, w, va_up rf k (some r))) V nc ns al st (pc + 3)) : zW X S V nc ns al (zR r :: zR o :: st) pc := by
  obtain ⟨p, l, e, R, s, m, args, below, meth, c, D, cy, A, Q, ad0, n0⟩ := X
  obtain ⟨hx, hb, hml, hown, hts, hlk, hK, -, -, hnm⟩ := C
  obtain ⟨Cn, T, N, ty0, f1, f2, f3, f4, f5, f6, f7, f8, f9, f10⟩ := F
  obtain ⟨T', N', g1, g2⟩ := hc0
  cases f1.symm.trans g1
  intro ad H locs ls hw hS hL ho
  have he := wsW_at (ad := ad) (cy := cy) (V := V) hs
  rw [cE_obj f10] at he
  have hset : (fvals ad (V o) (tag, w, rf)).set k (.ref (ad r)) = fvals ad (V o) (tag, w, va_up rf k (some r)) := by
    refine fvals_set rfl hk ?_ (fun j kj _ hj => ?_)
    · show va_rf ((va_up rf k (some r) k).map ad) = _
      simp [va_up, va_rf]
    · unfold fval
      simp [va_up, hj]
  have hd0 : parseFieldDescriptor (T k).2.2.1 = some ty := by rw [f5 k f3, f7]
  have hnar : narrow ty (.ref (ad r)) = .ref (ad r) := by rcases hty with ⟨n, rfl⟩ | ⟨t, rfl⟩ <;> rfl
  have hfit : fits ty (.ref (ad r)) = true := by rcases hty with ⟨n, rfl⟩ | ⟨t, rfl⟩ <;> rfl
  refine va_putF hx hb hts f2 ty0 f5 f6 hown hK.1 hw.1 hw.2.1 hS o he f1 k f3 (hts _ f4) (fun _ q => q) f8 hnm g2 hd0 hnar hfit (by rw [fvals_len, f9]; exact f3) hd (fun H1 locs1 hP1 hD1 hS1 => ?_)
  have hws : (wsW ad cy S V).set o (ad o, .inr (tag, (fvals ad (V o) (tag, w, rf)).set k (.ref (ad r)))) = wsW ad cy (S.set o (tag, w, va_up rf k (some r))) V := by
    rw [hset, ← wsW_set (V' := V) hs (fun c' hc => rfl), cE_obj f10]
  have hP1 := (congrArg (fun z => va_P D vwCl z H1) hws).mp hP1
  have hD1 := (congrArg (fun z => va_D A z) hws).mp hD1
  have hlen : (S.set o (tag, w, va_up rf k (some r))).length = S.length := List.length_set
  refine kk ad H1 locs1 ls ⟨hP1, hD1, okS_set hw.2.2.1 (fun j q hj => ?_), inV_shape hw.2.2.2.1 hs rfl, by rw [hlen]; exact hw.2.2.2.2.1, hw.2.2.2.2.2⟩ hS1 (by rw [hlen]; exact hL) (by rw [hlen]; exact ho.2.2)
  by_cases hjk : j = k
  · subst hjk
    simp [va_up] at hj
    omega
  · simp [va_up, hjk] at hj
    exact hw.2.2.1 o _ hs j q hj
/-- a feud's worth, in its constructor -/
theorem a_putW (C : zCX X cc nL own "<init>" rm) (F : zF own idx tag k .int true) (hc0 : ∃ C' T N, vwCl[tag]? = some (C', T, N) ∧ (T k).1 = own) (hs : S[o]? = some (tag, w, rf)) (hk : (fkt tag)[k]? = some 3) (hk0 : fkt tag = [3]) (hd : decode cc pc = .ok (.putfield idx, 3)) {x : Int} (kk : zW X (S.set o (tag, x, rf)) V nc ns al st (pc + 3)) : zW X S V nc ns al (zI x :: zR o :: st) pc := by
  obtain ⟨p, l, e, R, s, m, args, below, meth, c, D, cy, A, Q, ad0, n0⟩ := X
  obtain ⟨hx, hb, hml, hown, hts, hlk, hK, -, -, hnm⟩ := C
  obtain ⟨Cn, T, N, ty0, f1, f2, f3, f4, f5, f6, f7, f8, f9, f10⟩ := F
  obtain ⟨C', T', N', g1, g2⟩ := hc0
  cases f1.symm.trans g1
  intro ad H locs ls hw hS hL ho
  have he := wsW_at (ad := ad) (cy := cy) (V := V) hs
  rw [cE_obj f10] at he
  have hset : (fvals ad (V o) (tag, w, rf)).set k (.int (Int32.ofInt x)) = fvals ad (V o) (tag, x, rf) := by
    refine fvals_set rfl hk rfl (fun j kj hj hjk => ?_)
    have e1 : (fkt tag)[j]? = some kj := hj
    have e2 := hk
    rw [hk0] at e1 e2
    have l1 := (List.getElem?_eq_some_iff.mp e1).1
    have l2 := (List.getElem?_eq_some_iff.mp e2).1
    simp at l1 l2
    omega
  have hd0 : parseFieldDescriptor (T k).2.2.1 = some .int := by rw [f5 k f3, f7]
  refine va_putF hx hb hts f2 ty0 f5 f6 hown hK.1 hw.1 hw.2.1 hS o he f1 k f3 (hts _ f4) (fun _ q => q) f8 hnm g2 hd0 rfl rfl (by rw [fvals_len, f9]; exact f3) hd (fun H1 locs1 hP1 hD1 hS1 => ?_)
  have hws : (wsW ad cy S V).set o (ad o, .inr (tag, (fvals ad (V o) (tag, w, rf)).set k (.int (Int32.ofInt x)))) = wsW ad cy (S.set o (tag, x, rf)) V := by
    rw [hset, ← wsW_set (V' := V) hs (fun c' hc => rfl), cE_obj f10]
  have hP1 := (congrArg (fun z => va_P D vwCl z H1) hws).mp hP1
  have hD1 := (congrArg (fun z => va_D A z) hws).mp hD1
  have hlen : (S.set o (tag, x, rf)).length = S.length := List.length_set
  exact kk ad H1 locs1 ls ⟨hP1, hD1, okS_set hw.2.2.1 (fun j q hj => hw.2.2.1 o _ hs j q hj), inV_shape hw.2.2.2.1 hs rfl, by rw [hlen]; exact hw.2.2.2.2.1, hw.2.2.2.2.2⟩ hS1 (by rw [hlen]; exact hL) (by rw [hlen]; exact ho.2.2)
/-! arrays -/
theorem a_iald (C : zCX X cc nL own nm rm) {n i : Int} (hs : S[o]? = some (13, n, rf)) (hd : decode cc pc = .ok (.iaload, 1)) (hn : n ≤ 2147483647) (h : 0 ≤ i ∧ i < n) (kk : inR (V o i.toNat) → zW X S V nc ns al (zI (V o i.toNat) :: st) (pc + 1)) : zW X S V nc ns al (zI i :: zR o :: st) pc := by
  obtain ⟨p, l, e, R, s, m, args, below, meth, c, D, cy, A, Q, ad0, n0⟩ := X
  obtain ⟨hx, hb, hml, hown, hts, hlk, hK, -⟩ := C
  intro ad H locs ls hw hS hL ho
  refine va_iald hx hb hK.1 hw.1 o 0 (wsW_at (ad := ad) (cy := cy) (V := V) hs) rfl (z_in h.1 h.2 hn) hd ?_
  rw [z_clamp h.1 (by omega)]
  exact kk (hw.2.2.2.1 o _ hs i.toNat) ad H locs ls hw hS hL ⟨trivial, ho.2.2⟩
theorem a_zald (C : zCX X cc nL own nm rm) {n i : Int} (hs : S[o]? = some (14, n, rf)) (hd : decode cc pc = .ok (.baload, 1)) (hn : n ≤ 2147483647) (h : 0 ≤ i ∧ i < n) (kk : (V o i.toNat = 0 ∨ V o i.toNat = 1) → zW X S V nc ns al (zI (V o i.toNat) :: st) (pc + 1)) : zW X S V nc ns al (zI i :: zR o :: st) pc := by
  obtain ⟨p, l, e, R, s, m, args, below, meth, c, D, cy, A, Q, ad0, n0⟩ := X
  obtain ⟨hx, hb, hml, hown, hts, hlk, hK, -⟩ := C
  intro ad H locs ls hw hS hL ho
  refine va_zald hx hb hK.1 hw.1 o 1 (wsW_at (ad := ad) (cy := cy) (V := V) hs) rfl (z_in h.1 h.2 hn) hd ?_
  rw [z_clamp h.1 (by omega)]
  exact kk (hw.2.2.2.1 o _ hs i.toNat) ad H locs ls hw hS hL ⟨trivial, ho.2.2⟩
theorem a_lald (C : zCX X cc nL own nm rm) {n i : Int} (hs : S[o]? = some (15, n, rf)) (hd : decode cc pc = .ok (.laload, 1)) (hn : n ≤ 2147483647) (h : 0 ≤ i ∧ i < n) (kk : inL (V o i.toNat) → zW X S V nc ns al (zJ (V o i.toNat) :: st) (pc + 1)) : zW X S V nc ns al (zI i :: zR o :: st) pc := by
  obtain ⟨p, l, e, R, s, m, args, below, meth, c, D, cy, A, Q, ad0, n0⟩ := X
  obtain ⟨hx, hb, hml, hown, hts, hlk, hK, -⟩ := C
  intro ad H locs ls hw hS hL ho
  refine va_lald hx hb hK.1 hw.1 o 2 (wsW_at (ad := ad) (cy := cy) (V := V) hs) rfl (z_in h.1 h.2 hn) hd ?_
  rw [z_clamp h.1 (by omega)]
  exact kk (hw.2.2.2.1 o _ hs i.toNat) ad H locs ls hw hS hL ⟨trivial, ho.2.2⟩
theorem a_aald (C : zCX X cc nL own nm rm) {n i : Int} (hs : S[o]? = some (16, n, rf)) (hd : decode cc pc = .ok (.aaload, 1)) (hn : n ≤ 2147483647) (h : 0 ≤ i ∧ i < n) {r : Nat} (hr : rf i.toNat = some r) (kk : zW X S V nc ns al (zR r :: st) (pc + 1)) : zW X S V nc ns al (zI i :: zR o :: st) pc := by
  obtain ⟨p, l, e, R, s, m, args, below, meth, c, D, cy, A, Q, ad0, n0⟩ := X
  obtain ⟨hx, hb, hml, hown, hts, hlk, hK, -⟩ := C
  intro ad H locs ls hw hS hL ho
  refine va_aldq hx hb hK.1 hw.1 o 3 (wsW_at (ad := ad) (cy := cy) (V := V) hs) rfl (z_in h.1 h.2 hn) hd ?_
  rw [z_clamp h.1 (by omega)]
  have e1 : va_rf ((rf i.toNat).map ad) = .ref (ad r) := by rw [hr]; rfl
  show W _ _ _ _ _ _ _ _ _ _ _ _ _ _ _ (F0 _ _ _ (va_rf ((rf i.toNat).map ad) :: _))
  rw [e1]
  exact kk ad H locs ls hw hS hL ⟨Or.inl (hw.2.2.1 o _ hs _ r hr), ho.2.2⟩
theorem a_iast (C : zCX X cc nL own nm rm) {n i : Int} (hs : S[o]? = some (13, n, rf)) (hd : decode cc pc = .ok (.iastore, 1)) (hn : n ≤ 2147483647) {x : Int} (h : (0 ≤ i ∧ i < n) ∧ inR x) (kk : zW X S (vset V o i.toNat x) nc ns al st (pc + 1)) : zW X S V nc ns al (zI x :: zI i :: zR o :: st) pc := by
  obtain ⟨p, l, e, R, s, m, args, below, meth, c, D, cy, A, Q, ad0, n0⟩ := X
  obtain ⟨hx, hb, hml, hown, hts, hlk, hK, -⟩ := C
  intro ad H locs ls hw hS hL ho
  refine va_iast hx hb hK.1 hw.1 hw.2.1 hS o 0 (wsW_at (ad := ad) (cy := cy) (V := V) hs) rfl (z_in h.1.1 h.1.2 hn) hd (fun H1 locs1 hP1 hD1 hS1 => ?_)
  rw [z_clamp h.1.1 (by omega)] at hP1 hD1
  have hws : (wsW ad cy S V).set o (ad o, .inl (cy 0, n.toNat, .inl (upd (fun j => Int32.ofInt (V o j)) i.toNat (Int32.ofInt x)))) = wsW ad cy S (vset V o i.toNat x) := by
    rw [← wsW_setV (V' := vset V o i.toNat x) hs (fun c' hc => vrow_n hc), show vset V o i.toNat x o = ups (V o) i.toNat x from vrow_s _ _ _]
    have e1 : (upd (fun j => Int32.ofInt (V o j)) i.toNat (Int32.ofInt x)) = (fun j => Int32.ofInt (ups (V o) i.toNat x j)) := by
      funext j
      by_cases hj : j = i.toNat <;> simp [upd, ups, hj]
    rw [e1]
    rfl
  have hP1 := (congrArg (fun z => va_P D vwCl z H1) hws).mp hP1
  have hD1 := (congrArg (fun z => va_D A z) hws).mp hD1
  exact kk ad H1 locs1 ls ⟨hP1, hD1, hw.2.2.1, inV_set hw.2.2.2.1 hs h.2, hw.2.2.2.2⟩ hS1 hL ho.2.2.2
theorem a_zast (C : zCX X cc nL own nm rm) {n i : Int} (hs : S[o]? = some (14, n, rf)) (hd : decode cc pc = .ok (.bastore, 1)) (hn : n ≤ 2147483647) {x : Int} (h : (0 ≤ i ∧ i < n) ∧ (x = 0 ∨ x = 1)) (kk : zW X S (vset V o i.toNat x) nc ns al st (pc + 1)) : zW X S V nc ns al (zI x :: zI i :: zR o :: st) pc := by
  obtain ⟨p, l, e, R, s, m, args, below, meth, c, D, cy, A, Q, ad0, n0⟩ := X
  obtain ⟨hx, hb, hml, hown, hts, hlk, hK, -⟩ := C
  intro ad H locs ls hw hS hL ho
  refine va_zast hx hb hK.1 hw.1 hw.2.1 hS o 1 (wsW_at (ad := ad) (cy := cy) (V := V) hs) rfl (z_in h.1.1 h.1.2 hn) hd (fun H1 locs1 hP1 hD1 hS1 => ?_)
  rw [z_clamp h.1.1 (by omega)] at hP1 hD1
  have e0 : vp_nar .boolean (Int32.ofInt x) = Int32.ofInt x := by rcases h.2 with rfl | rfl <;> rfl
  rw [e0] at hP1 hD1
  have hws : (wsW ad cy S V).set o (ad o, .inl (cy 1, n.toNat, .inl (upd (fun j => Int32.ofInt (V o j)) i.toNat (Int32.ofInt x)))) = wsW ad cy S (vset V o i.toNat x) := by
    rw [← wsW_setV (V' := vset V o i.toNat x) hs (fun c' hc => vrow_n hc), show vset V o i.toNat x o = ups (V o) i.toNat x from vrow_s _ _ _]
    have e1 : (upd (fun j => Int32.ofInt (V o j)) i.toNat (Int32.ofInt x)) = (fun j => Int32.ofInt (ups (V o) i.toNat x j)) := by
      funext j
      by_cases hj : j = i.toNat <;> simp [upd, ups, hj]
    rw [e1]
    rfl
  have hP1 := (congrArg (fun z => va_P D vwCl z H1) hws).mp hP1
  have hD1 := (congrArg (fun z => va_D A z) hws).mp hD1
  exact kk ad H1 locs1 ls ⟨hP1, hD1, hw.2.2.1, inV_set hw.2.2.2.1 hs h.2, hw.2.2.2.2⟩ hS1 hL ho.2.2.2
theorem a_last (C : zCX X cc nL own nm rm) {n i : Int} (hs : S[o]? = some (15, n, rf)) (hd : decode cc pc = .ok (.lastore, 1)) (hn : n ≤ 2147483647) {x : Int} (h : (0 ≤ i ∧ i < n) ∧ inL x) (kk : zW X S (vset V o i.toNat x) nc ns al st (pc + 1)) : zW X S V nc ns al (zJ x :: zI i :: zR o :: st) pc := by
  obtain ⟨p, l, e, R, s, m, args, below, meth, c, D, cy, A, Q, ad0, n0⟩ := X
  obtain ⟨hx, hb, hml, hown, hts, hlk, hK, -⟩ := C
  intro ad H locs ls hw hS hL ho
  refine va_last hx hb hK.1 hw.1 hw.2.1 hS o 2 (wsW_at (ad := ad) (cy := cy) (V := V) hs) rfl (z_in h.1.1 h.1.2 hn) hd (fun H1 locs1 hP1 hD1 hS1 => ?_)
  rw [z_clamp h.1.1 (by omega)] at hP1 hD1
  have hws : (wsW ad cy S V).set o (ad o, .inl (cy 2, n.toNat, .inr (.inl (vp_updL (fun j => Int64.ofInt (V o j)) i.toNat (Int64.ofInt x))))) = wsW ad cy S (vset V o i.toNat x) := by
    rw [← wsW_setV (V' := vset V o i.toNat x) hs (fun c' hc => vrow_n hc), show vset V o i.toNat x o = ups (V o) i.toNat x from vrow_s _ _ _]
    have e1 : (vp_updL (fun j => Int64.ofInt (V o j)) i.toNat (Int64.ofInt x)) = (fun j => Int64.ofInt (ups (V o) i.toNat x j)) := by
      funext j
      by_cases hj : j = i.toNat <;> simp [vp_updL, ups, hj]
    rw [e1]
    rfl
  have hP1 := (congrArg (fun z => va_P D vwCl z H1) hws).mp hP1
  have hD1 := (congrArg (fun z => va_D A z) hws).mp hD1
  exact kk ad H1 locs1 ls ⟨hP1, hD1, hw.2.2.1, inV_set hw.2.2.2.1 hs h.2, hw.2.2.2.2⟩ hS1 hL ho.2.2.2
theorem a_alen (C : zCX X cc nL own nm rm) {n : Int} (t : Nat) (ht : 13 ≤ t ∧ t ≤ 16) (hs : S[o]? = some (t, n, rf)) (hd : decode cc pc = .ok (.arraylength, 1)) (hn : 0 ≤ n) (kk : zW X S V nc ns al (zI n :: st) (pc + 1)) : zW X S V nc ns al (zR o :: st) pc := by
  obtain ⟨p, l, e, R, s, m, args, below, meth, c, D, cy, A, Q, ad0, n0⟩ := X
  obtain ⟨hx, hb, hml, hown, hts, hlk, hK, -⟩ := C
  intro ad H locs ls hw hS hL ho
  have he := wsW_at (ad := ad) (cy := cy) (V := V) hs
  have hv : Int32.ofNat n.toNat = Int32.ofInt n := by
    conv => rhs; rw [← Int.toNat_of_nonneg hn]
    rfl
  rcases (show t = 13 ∨ t = 14 ∨ t = 15 ∨ t = 16 by omega) with rfl | rfl | rfl | rfl
  · exact va_alen hx hb hK.1 hw.1 o 0 he (ty := .int) rfl hv hd (kk ad H locs ls hw hS hL ⟨trivial, ho.2⟩)
  · exact va_alen hx hb hK.1 hw.1 o 1 he (ty := .boolean) rfl hv hd (kk ad H locs ls hw hS hL ⟨trivial, ho.2⟩)
  · exact va_alen hx hb hK.1 hw.1 o 2 he (ty := .long) rfl hv hd (kk ad H locs ls hw hS hL ⟨trivial, ho.2⟩)
  · exact va_alen hx hb hK.1 hw.1 o 3 he (ty := .object "ClosedFeuds$Feud") rfl hv hd (kk ad H locs ls hw hS hL ⟨trivial, ho.2⟩)
end ZF
end
section
/-! ===== makings, ends, calls ===== -/
def zN (own : String) (idx tag : Nat) : Prop := ∃ (C : String) (T : u_T) (N : Nat) (ty0 : Nat → FieldType), vwCl[tag]? = some (C, T, N) ∧ (∀ w ∈ u_ws C T N, w ∈ TB) ∧ (∀ k, k < N → parseFieldDescriptor (T k).2.2.1 = some (ty0 k)) ∧ Cond.classLink own idx C ∈ TB ∧ Cond.instantiable C N ∈ TB ∧ Cond.initialized C ∈ TB ∧ (∀ ad : Nat → Nat, ∀ j, j < N → defaultValue (ty0 j) = vp_V (fvals ad (fun _ => 0) (tag, 0, fun _ => none)) j) ∧ tag < 13
theorem ext_ad {n q : Nat} (ad : Nat → Nat) (hn : n < 999999) : ∃ ad' : Nat → Nat, (∀ k, k < n ∨ k = 999999 → ad' k = ad k) ∧ ad' n = q :=
  ⟨fun k => if k = n then q else ad k, fun k hk => if_neg (by omega), if_pos rfl⟩
section ZN
variable {X : zM} {cc : ByteArray} {nL : Nat} {own nm : String} {rm : Room} {S : List zC} {V : zV} {nc ns pc : Nat} {al : List (Option zA)} {st : List zA} {idx tag k o : Nat}
theorem z_grow {D : va_G} {cy : Nat → ClassId} {A : Nat → Prop} {ad0 ad ad' : Nat → Nat} {n0 q : Nat} {sc : zC} {f : Nat → Int} {H H1 : Heap} (hw : zWD D cy A ad0 n0 ad S V H) (h1 : ∀ k, k < S.length ∨ k = 999999 → ad' k = ad k) (h2 : ad' S.length = q) (hr : ∀ k r, sc.2.2 k = some r → r < S.length + 1) (hf : ∀ k, inC sc.1 k (f k))
    (hP : va_P D vwCl (wsW ad cy S V ++ [(q, cE ad' cy f sc)]) H1) (hD : va_D A (wsW ad cy S V ++ [(q, cE ad' cy f sc)])) : zWD D cy A ad0 n0 ad' (S ++ [sc]) (vrow V S.length f) H1 := by
  have e := wsW_push (cy := cy) (V := V) (V' := vrow V S.length f) (sc' := sc) hw.2.2.1 h1 h2 (fun c hc => vrow_n (Nat.ne_of_lt hc))
  rw [vrow_s] at e
  rw [e] at hP hD
  refine ⟨hP, hD, okS_push hw.2.2.1 hr, inV_push hw.2.2.2.1 hf, ?_, fun k hk => ?_⟩
  · rw [List.length_append]
    exact Nat.le_trans hw.2.2.2.2.1 (Nat.le_add_right _ _)
  · rw [h1 k (hk.imp (fun q => Nat.lt_of_lt_of_le q hw.2.2.2.2.1) id)]
    exact hw.2.2.2.2.2 k hk
theorem a_new (C : zCX X cc nL own nm rm) (F : zN own idx tag) (N : Nat) (hN : N = (fkt tag).length) (hN2 : ∃ C T, vwCl[tag]? = some (C, T, N)) (hd : decode cc pc = .ok (.new idx, 3)) (hn : S.length < 999999) (hc : nc + 1 ≤ rm.cells) (hs : ns + N ≤ rm.slots) (kk : zW X (S ++ [(tag, 0, fun _ => none)]) (vrow V S.length (fun _ => 0)) (nc + 1) (ns + N) al (zR S.length :: st) (pc + 3)) : zW X S V nc ns al st pc := by
  obtain ⟨p, l, e, R, s, m, args, below, meth, c, D, cy, A, Q, ad0, n0⟩ := X
  obtain ⟨hx, hb, hml, hown, hts, hlk, hK, hA, hR, -⟩ := C
  subst hR
  obtain ⟨Cn, T, N', ty0, f1, f2, f3, f4, f5, f6, f7, f8⟩ := F
  obtain ⟨C', T', g1⟩ := hN2
  cases f1.symm.trans g1
  intro ad H locs ls hw hS hL ho
  refine va_new (ci := tag) (fs := fvals ad (fun _ => 0) (tag, 0, fun _ => none)) hx hb hts f2 ty0 f3 hown (hts _ f4) (hts _ f5) (hts _ f6) hK.1 hw.1 hw.2.1 hS hA f1 (f7 ad) hc hs hd (fun q H1 hP1 hD1 hS1 => ?_)
  obtain ⟨ad', h1, h2⟩ := ext_ad (q := q) ad hn
  have e0 : cE ad' cy (fun _ => 0) (tag, 0, fun _ => none) = .inr (tag, fvals ad (fun _ => 0) (tag, 0, fun _ => none)) := by
    rw [cE_to h1 (sc := (tag, 0, fun _ => none)) (fun k r hr => by cases hr), cE_obj f8]
  have hw' := z_grow (sc := (tag, 0, fun _ => none)) (f := fun _ => 0) hw h1 h2 (fun k r hr => by cases hr) (fun k => inC_0 _ _) (e0.symm ▸ hP1) (e0.symm ▸ hD1)
  have hlen : (S ++ [((tag, 0, fun _ => none) : zC)]).length = S.length + 1 := by simp
  have hle : S.length ≤ (S ++ [((tag, 0, fun _ => none) : zC)]).length := by omega
  have hst : (zR S.length :: st).map (cvv ad') = .ref q :: st.map (cvv ad) := by
    rw [List.map_cons, cvv_map h1 (okst_mem ho)]
    exact congrArg (fun z => Value.ref z :: st.map (cvv ad)) h2
  rw [← hst]
  exact kk ad' H1 locs ls hw' hS1 (zLR_to hle h1 hL) ⟨Or.inl (by omega), okst_mono hle ho⟩
theorem a_newa (C : zCX X cc nL own nm rm) {atype : ArrayType} {ty : FieldType} {t : Nat} (hat : (t = 13 ∧ ty = .int) ∨ (t = 14 ∧ ty = .boolean) ∨ (t = 15 ∧ ty = .long)) (harr : Cond.arrayClass ty ∈ TB) (hty : newarray.typeOf atype = ty) (hd : decode cc pc = .ok (.newarray atype, 2)) {n : Int} (hn0 : 0 ≤ n ∧ n ≤ 100000) (hn : S.length < 999999) (hc : nc + 1 ≤ rm.cells) (hs : ns + n.toNat ≤ rm.slots) (kk : zW X (S ++ [(t, n, fun _ => none)]) (vrow V S.length (fun _ => 0)) (nc + 1) (ns + n.toNat) al (zR S.length :: st) (pc + 2)) : zW X S V nc ns al (zI n :: st) pc := by
  obtain ⟨p, l, e, R, s, m, args, below, meth, c, D, cy, A, Q, ad0, n0⟩ := X
  obtain ⟨hx, hb, hml, hown, hts, hlk, hK, hA, hR, -⟩ := C
  subst hR
  intro ad H locs ls hw hS hL ho
  have hbytes : n.toNat * componentBytes ty ≤ 536870912 := by
    rcases hat with ⟨-, rfl⟩ | ⟨-, rfl⟩ | ⟨-, rfl⟩ <;> simp [componentBytes] <;> omega
  have key : ∀ (j : Nat) (a0 : vp_A), (tyL cy)[j]? = some (cy j, ty) → (∀ ad' : Nat → Nat, cE ad' cy (fun _ => 0) (t, n, fun _ => none) = .inl (cy j, a0)) → (∀ cA : ClassId, vp_cell cA a0 = arrV cA n.toNat (fun _ => defaultValue ty)) → (∀ cA, va_RA s cA ty → va_RA s (cy j) ty → cA = cy j) → W p l e R s m args below meth c H locs nc ns Q (F0 m pc ls ((zI n :: st).map (cvv ad))) := by
    intro j a0 hj he ha hu
    refine va_newa (a0 := a0) hx hb (by rw [hty]; exact hts _ harr) hty hK.1 hw.1 hw.2.1 hS hA ha (z_neg hn0.1 (by omega)) (z_clamp hn0.1 (by omega)) hbytes hc hs hd (fun q cA H1 hK1 hP1 hD1 hS1 => ?_)
    have e1 : cA = cy j := hu cA (hK1.2 4 (cA, ty) rfl).2 (hK.1.2 j _ hj).2
    subst e1
    obtain ⟨ad', h1, h2⟩ := ext_ad (q := q) ad hn
    have hw' := z_grow (sc := (t, n, fun _ => none)) (f := fun _ => 0) hw h1 h2 (fun k r hr => by cases hr) (fun k => inC_0 _ _) ((he ad').symm ▸ hP1) ((he ad').symm ▸ hD1)
    have hlen : (S ++ [((t, n, fun _ => none) : zC)]).length = S.length + 1 := by simp
    have hle : S.length ≤ (S ++ [((t, n, fun _ => none) : zC)]).length := by omega
    have hst : (zR S.length :: st).map (cvv ad') = .ref q :: st.map (cvv ad) := by
      rw [List.map_cons, cvv_map h1 (okst_mem ho.2)]
      exact congrArg (fun z => Value.ref z :: st.map (cvv ad)) h2
    rw [← hst]
    exact kk ad' H1 locs ls hw' hS1 (zLR_to hle h1 hL) ⟨Or.inl (by omega), okst_mono hle ho.2⟩
  rcases hat with ⟨rfl, rfl⟩ | ⟨rfl, rfl⟩ | ⟨rfl, rfl⟩
  · exact key 0 (n.toNat, .inl (fun _ => Int32.ofInt 0)) rfl (fun _ => rfl) (fun cA => rfl) (fun cA h h' => Option.some.inj (Eq.trans (Eq.symm h) h'))
  · exact key 1 (n.toNat, .inl (fun _ => Int32.ofInt 0)) rfl (fun _ => rfl) (fun cA => rfl) (fun cA h h' => Option.some.inj (Eq.trans (Eq.symm h) h'))
  · exact key 2 (n.toNat, .inr (.inl (fun _ => Int64.ofInt 0))) rfl (fun _ => rfl) (fun cA => rfl) (fun cA h h' => Option.some.inj (Eq.trans (Eq.symm h) h'))
theorem a_anew (C : zCX X cc nL own nm rm) (hcl : Cond.classLink own idx "ClosedFeuds$Feud" ∈ TB) (hd : decode cc pc = .ok (.anewarray idx, 3)) {n : Int} (hn0 : 0 ≤ n ∧ n ≤ 100000) (hn : S.length < 999999) (hc : nc + 1 ≤ rm.cells) (hs : ns + n.toNat ≤ rm.slots) (kk : zW X (S ++ [(16, n, fun _ => none)]) (vrow V S.length (fun _ => 0)) (nc + 1) (ns + n.toNat) al (zR S.length :: st) (pc + 3)) : zW X S V nc ns al (zI n :: st) pc := by
  obtain ⟨p, l, e, R, s, m, args, below, meth, c, D, cy, A, Q, ad0, n0⟩ := X
  obtain ⟨hx, hb, hml, hown, hts, hlk, hK, hA, hR, -⟩ := C
  subst hR
  intro ad H locs ls hw hS hL ho
  refine va_newq hx hb hown (hts _ hcl) hK.2.2.2.2 hK.1 hw.1 hw.2.1 hS hA (z_neg hn0.1 (by omega)) (z_clamp hn0.1 (by omega)) (by omega) hc hs hd (fun q cA H1 hK1 hP1 hD1 hS1 => ?_)
  have e1 : cA = cy 3 := by
    obtain ⟨-, -, -, -, -, h⟩ := (hK1.2 4 (cA, .object "ClosedFeuds$Feud") rfl).2
    obtain ⟨-, -, -, -, -, h'⟩ := (hK.1.2 3 (cy 3, .object "ClosedFeuds$Feud") rfl).2
    exact Option.some.inj (h.symm.trans h')
  subst e1
  obtain ⟨ad', h1, h2⟩ := ext_ad (q := q) ad hn
  have he : cE ad' cy (fun _ => 0) (16, n, fun _ => none) = .inl (cy 3, n.toNat, .inr (.inr (.inr (.inr (fun _ => none))))) := rfl
  have hw' := z_grow (sc := (16, n, fun _ => none)) (f := fun _ => 0) hw h1 h2 (fun k r hr => by cases hr) (fun k => inC_0 _ _) (he.symm ▸ hP1) (he.symm ▸ hD1)
  have hlen : (S ++ [((16, n, fun _ => none) : zC)]).length = S.length + 1 := by simp
  have hle : S.length ≤ (S ++ [((16, n, fun _ => none) : zC)]).length := by omega
  have hst : (zR S.length :: st).map (cvv ad') = .ref q :: st.map (cvv ad) := by
    rw [List.map_cons, cvv_map h1 (okst_mem ho.2)]
    exact congrArg (fun z => Value.ref z :: st.map (cvv ad)) h2
  rw [← hst]
  exact kk ad' H1 locs ls hw' hS1 (zLR_to hle h1 hL) ⟨Or.inl (by omega), okst_mono hle ho.2⟩
/-- a feud is put into its row -/
theorem a_aast (C : zCX X cc nL own nm rm) {n i w0 : Int} {rf rf2 : Nat → Option Nat} {r : Nat} (hs : S[o]? = some (16, n, rf)) (hr : S[r]? = some (tag, w0, rf2)) (htag : tag = 0 ∨ tag = 2 ∨ tag = 3 ∨ tag = 5 ∨ tag = 9) (hd : decode cc pc = .ok (.aastore, 1)) (hn : n ≤ 2147483647) (h : 0 ≤ i ∧ i < n) (kk : zW X (S.set o (16, n, va_up rf i.toNat (some r))) V nc ns al st (pc + 1)) : zW X S V nc ns al (zR r :: zI i :: zR o :: st) pc := by
  obtain ⟨p, l, e, R, s, m, args, below, meth, c, D, cy, A, Q, ad0, n0⟩ := X
  obtain ⟨hx, hb, hml, hown, hts, hlk, hK, -⟩ := C
  intro ad H locs ls hw hS hL ho
  have hrl : r < S.length := (List.getElem?_eq_some_iff.mp hr).1
  have cont : ∀ (H1 : Heap) (locs1 : List Loc), va_P D vwCl ((wsW ad cy S V).set o (ad o, .inl (cy 3, n.toNat, .inr (.inr (.inr (.inr (va_up (fun j => (rf j).map ad) (Int32.ofInt i).toNatClampNeg (some (ad r))))))))) H1 → va_D A ((wsW ad cy S V).set o (ad o, .inl (cy 3, n.toNat, .inr (.inr (.inr (.inr (va_up (fun j => (rf j).map ad) (Int32.ofInt i).toNatClampNeg (some (ad r))))))))) → va_S A s.heap H1 locs1 → W p l e R s m args below meth c H1 locs1 nc ns Q (F0 m (pc + 1) ls (st.map (cvv ad))) := by
    intro H1 locs1 hP1 hD1 hS1
    rw [z_clamp h.1 (by omega)] at hP1 hD1
    have hws : (wsW ad cy S V).set o (ad o, .inl (cy 3, n.toNat, .inr (.inr (.inr (.inr (va_up (fun j => (rf j).map ad) i.toNat (some (ad r)))))))) = wsW ad cy (S.set o (16, n, va_up rf i.toNat (some r))) V := by
      rw [← wsW_set (V' := V) hs (fun c' hc => rfl)]
      have e1 : (va_up (fun j => (rf j).map ad) i.toNat (some (ad r))) = (fun j => (va_up rf i.toNat (some r) j).map ad) := by
        funext j
        by_cases hj : j = i.toNat <;> simp [va_up, hj]
      rw [e1]
      rfl
    rw [hws] at hP1 hD1
    have hlen : (S.set o (16, n, va_up rf i.toNat (some r))).length = S.length := List.length_set
    refine kk ad H1 locs1 ls ⟨hP1, hD1, okS_set hw.2.2.1 (fun j q hj => ?_), inV_shape hw.2.2.2.1 hs rfl, by rw [hlen]; exact hw.2.2.2.2.1, hw.2.2.2.2.2⟩ hS1 (by rw [hlen]; exact hL) (by rw [hlen]; exact ho.2.2.2)
    by_cases hjk : j = i.toNat
    · subst hjk
      simp [va_up] at hj
      omega
    · simp [va_up, hjk] at hj
      exact hw.2.2.1 o _ hs j q hj
  have hv := wsW_at (ad := ad) (cy := cy) (V := V) hr
  have ha := wsW_at (ad := ad) (cy := cy) (V := V) hs
  rcases htag with rfl | rfl | rfl | rfl | rfl
  · exact va_astqO hx hb hK.1 hw.1 hw.2.1 hS o 3 r 0 (E := "ClosedFeuds$Feud") (r := (RX0, TX0, 1)) ha rfl (hK.2.2.1 ("ClosedFeuds$Boundary", "ClosedFeuds$Feud") (by simp [zCast])) hv rfl (z_in h.1 h.2 hn) hd cont
  · exact va_astq hx hb hK.1 hw.1 hw.2.1 hS o 3 r 2 (r := (RX2, TX2, 1)) ha rfl hv rfl (z_in h.1 h.2 hn) hd cont
  · exact va_astqO hx hb hK.1 hw.1 hw.2.1 hS o 3 r 3 (E := "ClosedFeuds$Feud") (r := (RX3, TX3, 1)) ha rfl (hK.2.2.1 ("ClosedFeuds$Grudge", "ClosedFeuds$Feud") (by simp [zCast])) hv rfl (z_in h.1 h.2 hn) hd cont
  · exact va_astqO hx hb hK.1 hw.1 hw.2.1 hS o 3 r 5 (E := "ClosedFeuds$Feud") (r := (RX5, TX5, 1)) ha rfl (hK.2.2.1 ("ClosedFeuds$Joke", "ClosedFeuds$Feud") (by simp [zCast])) hv rfl (z_in h.1 h.2 hn) hd cont
  · exact va_astqO hx hb hK.1 hw.1 hw.2.1 hS o 3 r 9 (E := "ClosedFeuds$Feud") (r := (RX9, TX9, 1)) ha rfl (hK.2.2.1 ("ClosedFeuds$Pig", "ClosedFeuds$Feud") (by simp [zCast])) hv rfl (z_in h.1 h.2 hn) hd cont
/-! ends -/
theorem a_iret (C : zCX X cc nL own nm rm) {post : Option zA → List zC → zV → Prop} {mc ms : Nat} (E : zRX X (some .int) post mc ms) (hd : decode cc pc = .ok (.ireturn, 1)) (hc : nc ≤ mc) (hs : ns ≤ ms) {x : Int} (h : post (some (zI x)) S V) : zW X S V nc ns al [zI x] pc := by
  obtain ⟨p, l, e, R, s, m, args, below, meth, c, D, cy, A, Q, ad0, n0⟩ := X
  obtain ⟨hx, hb, hml, hown, hts, hlk, hK, hA, hR, -⟩ := C
  obtain ⟨hr, rfl⟩ := E
  intro ad H locs ls hw hS hL ho
  refine W.widen hc hs ?_
  exact W.iret hx hb hr (fun t ht hW => ⟨⟨some (zI x), ad, S, V, rfl, h, fun v hv => by cases hv; trivial, ht ▸ hw⟩, hS.F ht⟩) (fun q hq => hS.2.2 q hq) hd hlk
theorem a_zret (C : zCX X cc nL own nm rm) {post : Option zA → List zC → zV → Prop} {mc ms : Nat} (E : zRX X (some .boolean) post mc ms) (hd : decode cc pc = .ok (.ireturn, 1)) (hc : nc ≤ mc) (hs : ns ≤ ms) {x : Int} (hx01 : x = 0 ∨ x = 1) (h : post (some (zI x)) S V) : zW X S V nc ns al [zI x] pc := by
  obtain ⟨p, l, e, R, s, m, args, below, meth, c, D, cy, A, Q, ad0, n0⟩ := X
  obtain ⟨hx, hb, hml, hown, hts, hlk, hK, hA, hR, -⟩ := C
  obtain ⟨hr, rfl⟩ := E
  intro ad H locs ls hw hS hL ho
  refine W.widen hc hs ?_
  exact W.zret hx hb hr (by rcases hx01 with rfl | rfl <;> rfl) (fun t ht hW => ⟨⟨some (zI x), ad, S, V, rfl, h, fun v hv => by cases hv; trivial, ht ▸ hw⟩, hS.F ht⟩) (fun q hq => hS.2.2 q hq) hd hlk
theorem a_lret (C : zCX X cc nL own nm rm) {post : Option zA → List zC → zV → Prop} {mc ms : Nat} (E : zRX X (some .long) post mc ms) (hd : decode cc pc = .ok (.lreturn, 1)) (hc : nc ≤ mc) (hs : ns ≤ ms) {x : Int} (h : post (some (zJ x)) S V) : zW X S V nc ns al [zJ x] pc := by
  obtain ⟨p, l, e, R, s, m, args, below, meth, c, D, cy, A, Q, ad0, n0⟩ := X
  obtain ⟨hx, hb, hml, hown, hts, hlk, hK, hA, hR, -⟩ := C
  obtain ⟨hr, rfl⟩ := E
  intro ad H locs ls hw hS hL ho
  refine W.widen hc hs ?_
  exact W.lret hx hb hr (fun t ht hW => ⟨⟨some (zJ x), ad, S, V, rfl, h, fun v hv => by cases hv; trivial, ht ▸ hw⟩, hS.F ht⟩) (fun q hq => hS.2.2 q hq) hd hlk
theorem a_aret (C : zCX X cc nL own nm rm) {post : Option zA → List zC → zV → Prop} {mc ms : Nat} {cn : String} (E : zRX X (some (.object cn)) post mc ms) (hd : decode cc pc = .ok (.areturn, 1)) (hc : nc ≤ mc) (hs : ns ≤ ms) {x : Nat} (h : post (some (zR x)) S V) : zW X S V nc ns al [zR x] pc := by
  obtain ⟨p, l, e, R, s, m, args, below, meth, c, D, cy, A, Q, ad0, n0⟩ := X
  obtain ⟨hx, hb, hml, hown, hts, hlk, hK, hA, hR, -⟩ := C
  obtain ⟨hr, rfl⟩ := E
  intro ad H locs ls hw hS hL ho
  refine W.widen hc hs ?_
  exact W.aret hx hb hr (Or.inl ⟨_, rfl⟩) (Or.inr ⟨_, rfl⟩) (fun t ht hW => ⟨⟨some (zR x), ad, S, V, rfl, h, fun v hv => by cases hv; exact ho.1, ht ▸ hw⟩, hS.F ht⟩) (fun q hq => hS.2.2 q hq) hd hlk
theorem a_vret (C : zCX X cc nL own nm rm) {post : Option zA → List zC → zV → Prop} {mc ms : Nat} (E : zRX X none post mc ms) (hd : decode cc pc = .ok (.return_, 1)) (hc : nc ≤ mc) (hs : ns ≤ ms) (h : post none S V) : zW X S V nc ns al [] pc := by
  obtain ⟨p, l, e, R, s, m, args, below, meth, c, D, cy, A, Q, ad0, n0⟩ := X
  obtain ⟨hx, hb, hml, hown, hts, hlk, hK, hA, hR, -⟩ := C
  obtain ⟨hr, rfl⟩ := E
  intro ad H locs ls hw hS hL ho
  refine W.widen hc hs ?_
  exact W.vret hx hb hr (fun t ht hW => ⟨⟨none, ad, S, V, rfl, h, (fun v hv => by cases hv), ht ▸ hw⟩, hS.F ht⟩) (fun q hq => hS.2.2 q hq) hd hlk
/-! constants of the pool; the library's small methods -/
theorem a_ldc2 (C : zCX X cc nL own nm rm) {v : Int} (hc : Cond.constantLong own idx (Int64.ofInt v) ∈ TB) (hd : decode cc pc = .ok (.ldc2_w idx, 3)) (k : zW X S V nc ns al (zJ v :: st) (pc + 3)) : zW X S V nc ns al st pc := by
  obtain ⟨p, l, e, R, s, m, args, below, meth, c, D, cy, A, Q, ad0, n0⟩ := X
  obtain ⟨hx, hb, hml, hown, hts, -⟩ := C
  intro ad H locs ls hw hS hL ho
  exact lv_ldc2 hx hb hown (hts _ hc) hd (k ad H locs ls hw hS hL ⟨trivial, ho⟩)
theorem a_ldc (C : zCX X cc nL own nm rm) {v : Int} (hc : Cond.constant own idx (Int32.ofInt v) ∈ TB) (hd : decode cc pc = .ok (.ldc idx, 2)) (k : zW X S V nc ns al (zI v :: st) (pc + 2)) : zW X S V nc ns al st pc := by
  obtain ⟨p, l, e, R, s, m, args, below, meth, c, D, cy, A, Q, ad0, n0⟩ := X
  obtain ⟨hx, hb, hml, hown, hts, -⟩ := C
  intro ad H locs ls hw hS hL ho
  exact lv_ldc hx hb hown (hts _ hc) hd (k ad H locs ls hw hS hL ⟨trivial, ho⟩)
theorem a_objInit (C : zCX X cc nL own nm rm) (h1 : Cond.methodLink own idx Lib.objectInit ∈ TB) (h2 : Cond.instanceMethod Lib.objectInit ∈ TB) (h3 : Cond.code Lib.objectInit ⟨#[0xb1]⟩ 1 none ∈ TB) (hd : decode cc pc = .ok (.invokespecial idx, 3)) (hf : 1 ≤ rm.frames) (hl : 12 ≤ rm.locals) (k : zW X S V nc ns al [] (pc + 3)) : zW X S V nc ns al [zR o] pc := by
  obtain ⟨p, l, e, R, s, m, args, below, meth, c, D, cy, A, Q, ad0, n0⟩ := X
  obtain ⟨hx, hb, hml, hown, hts, hlk, hK, hA, hR, -⟩ := C
  subst hR
  intro ad H locs ls hw hS hL ho
  exact W.objInit hx hb hown (hts _ h1) (hts _ h2) (hts _ h3) rfl hL.1 rfl hd hf hl (k ad H locs ls hw hS hL trivial)
end ZN
end
section
/-! ===== contracts and calls ===== -/
abbrev zT : Type := List zA → List zC → zV → (Option zA → List zC → zV → Prop) → Prop
def zPre (D : va_G) (cy : Nat → ClassId) (ad0 : Nat → Nat) (sz : Nat) (S : List zC) (V : zV) (as : List zA) : Array Value → State → Prop := fun v U => v = (as.map (cvv ad0)).toArray ∧ U.heap.size = sz ∧ va_P D vwCl (wsW ad0 cy S V) U.heap ∧ va_D (fun _ => True) (wsW ad0 cy S V) ∧ KK D cy U
/-- a method's contract: what T asks of its arguments, cells and numbers leads to its end -/
def zCT (l : Launch) (y : MethodName) (cc : ByteArray) (maxL : Nat) (ret : Option FieldType) (rm : Room) (T : zT) : Prop := ∀ (D : va_G) (cy : Nat → ClassId) (ad0 : Nat → Nat) (sz : Nat) (S : List zC) (V : zV) (as : List zA) (post : Option zA → List zC → zV → Prop), T as S V post → okS S → inV S V → okst S.length as →
  Met l y (.code y cc maxL ret :: TB) rm (zPre D cy ad0 sz S V as) (zPost D cy (va_A (wsW ad0 cy S V) sz) ad0 S.length post) rm.cells rm.slots (va_A (wsW ad0 cy S V) sz)
def entL : List zA → List (Option zA)
  | [] => []
  | .inl x :: r => some (.inl x) :: entL r
  | .inr (.inl x) :: r => some (.inr (.inl x)) :: none :: entL r
  | .inr (.inr x) :: r => some (.inr (.inr x)) :: entL r
def ent (as : List zA) (n : Nat) : List (Option zA) := entL as ++ List.replicate (n - (entL as).length) none
theorem ent_len (ad : Nat → Nat) : ∀ as : List zA, (lg_sl (as.map (cvv ad))).length = (entL as).length
  | [] => rfl
  | .inl x :: r => by
    have := ent_len ad r
    simp only [lg_sl, List.map_cons, List.flatMap_cons, List.length_append, entL, List.length_cons] at this ⊢
    simp [cvv, Value.category, ← this]
    omega
  | .inr (.inl x) :: r => by
    have := ent_len ad r
    simp only [lg_sl, List.map_cons, List.flatMap_cons, List.length_append, entL, List.length_cons] at this ⊢
    simp [cvv, Value.category, ← this]
    omega
  | .inr (.inr none) :: r => by
    have := ent_len ad r
    simp only [lg_sl, List.map_cons, List.flatMap_cons, List.length_append, entL, List.length_cons] at this ⊢
    simp [cvv, Value.category, ← this]
    omega
  | .inr (.inr (some x)) :: r => by
    have := ent_len ad r
    simp only [lg_sl, List.map_cons, List.flatMap_cons, List.length_append, entL, List.length_cons] at this ⊢
    simp [cvv, Value.category, ← this]
    omega
theorem entL_at (ad : Nat → Nat) {n : Nat} : ∀ (as : List zA), okst n as → ∀ (b i : Nat) (v : zA), (entL as)[i]? = some (some v) → okv n v ∧ (b + i, cvv ad v) ∈ lv_args b (as.map (cvv ad))
  | [], _, b, i, v, h => by simp [entL] at h
  | .inl x :: r, ho, b, i, v, h => by
    cases i with
    | zero => simp [entL] at h; subst h; exact ⟨trivial, List.mem_cons_self⟩
    | succ i =>
      simp only [entL, List.getElem?_cons_succ] at h
      have := entL_at ad r ho.2 (b + 1) i v h
      refine ⟨this.1, List.mem_cons_of_mem _ ?_⟩
      rw [show b + (i + 1) = b + 1 + i by omega]
      exact this.2
  | .inr (.inl x) :: r, ho, b, i, v, h => by
    cases i with
    | zero => simp [entL] at h; subst h; exact ⟨trivial, List.mem_cons_self⟩
    | succ i =>
      cases i with
      | zero => simp [entL] at h
      | succ i =>
        simp only [entL, List.getElem?_cons_succ] at h
        have := entL_at ad r ho.2 (b + 2) i v h
        refine ⟨this.1, List.mem_cons_of_mem _ ?_⟩
        rw [show b + (i + 1 + 1) = b + 2 + i by omega]
        exact this.2
  | .inr (.inr none) :: r, ho, b, i, v, h => by
    cases i with
    | zero => simp [entL] at h; subst h; exact ⟨trivial, List.mem_cons_self⟩
    | succ i =>
      simp only [entL, List.getElem?_cons_succ] at h
      have := entL_at ad r ho.2 (b + 1) i v h
      refine ⟨this.1, List.mem_cons_of_mem _ ?_⟩
      rw [show b + (i + 1) = b + 1 + i by omega]
      exact this.2
  | .inr (.inr (some x)) :: r, ho, b, i, v, h => by
    cases i with
    | zero => simp [entL] at h; subst h; exact ⟨ho.1, List.mem_cons_self⟩
    | succ i =>
      simp only [entL, List.getElem?_cons_succ] at h
      have := entL_at ad r ho.2 (b + 1) i v h
      refine ⟨this.1, List.mem_cons_of_mem _ ?_⟩
      rw [show b + (i + 1) = b + 1 + i by omega]
      exact this.2
theorem ent_LR (ad : Nat → Nat) {n nL : Nat} {as : List zA} (ho : okst n as) (hl : (entL as).length ≤ nL) : zLR n ad nL (ent as nL) ((lg_sl (as.map (cvv ad)) ++ List.replicate (nL - (lg_sl (as.map (cvv ad))).length) Slot.unset).toArray) := by
  have h := lv_entry (as.map (cvv ad)) (n := nL) (by rw [ent_len]; exact hl)
  refine ⟨h.1, h.2.1, fun i v hi => ?_⟩
  unfold ent at hi
  by_cases hi2 : i < (entL as).length
  · rw [List.getElem?_append_left hi2] at hi
    obtain ⟨h1, h2⟩ := entL_at ad as ho 0 i v hi
    rw [Nat.zero_add] at h2
    exact ⟨h1, h.2.2 _ h2⟩
  · rw [List.getElem?_append_right (by omega)] at hi
    have := List.mem_of_getElem? hi
    rw [List.mem_replicate] at this
    cases this.2
theorem zCT_of {l : Launch} {y : MethodName} {cc : ByteArray} {maxL : Nat} {ret : Option FieldType} {rm : Room} {T : zT} (hy : plainName y.cls = true) (hlen : ∀ as S V post, T as S V post → (entL as).length ≤ maxL)
    (h : ∀ (X : zM) (S : List zC) (V : zV) (as : List zA) (post : Option zA → List zC → zV → Prop), zCX X cc maxL y.cls y.name rm → zRX X ret post rm.cells rm.slots → T as S V post → zW X S V 0 0 (ent as maxL) [] 0) : zCT l y cc maxL ret rm T := by
  intro D cy ad0 sz S V as post hT hS hV hok
  refine Met.ofW (cc := cc) (maxL := maxL) (ret := ret) hy rfl ?_
  intro p e s m args below meth c s₁ B hml hv
  obtain ⟨rfl, rfl, hP, hD0, hK⟩ := hv
  have hts0 := atoms_spec (ws := .code y cc maxL ret :: TB) B.pre
  have hD := hD0.self (sz := s.heap.size)
  rw [lg_entry_eq]
  exact h (p, l, e, rm, s, m, (as.map (cvv ad0)).toArray, below, meth, c, D, cy, va_A (wsW ad0 cy S V) s.heap.size, MQ below (zPost D cy (va_A (wsW ad0 cy S V) s.heap.size) ad0 S.length post) (as.map (cvv ad0)).toArray s rm.cells rm.slots (va_A (wsW ad0 cy S V) s.heap.size), ad0, S.length) S V as post
    ⟨B.exec, B.bytes, hml, findClass_of_methodNamed B.named, fun w hw => hts0 w (List.mem_cons_of_mem _ hw), B.notSynchronized, hK, fun q hq => Or.inr hq, rfl, (name_of_methodNamed B.named B.method).1⟩ ⟨B.returns, rfl⟩ hT
    ad0 s.heap [] _ ⟨hP, hD, hS, hV, Nat.le_refl _, fun _ _ => rfl⟩ va_S.rf (by rw [hml]; exact ent_LR ad0 hok (hlen _ _ _ _ hT)) trivial
section ZC
variable {X : zM} {cc : ByteArray} {nL : Nat} {own nm : String} {rm : Room} {S : List zC} {V : zV} {nc ns pc : Nat} {al : List (Option zA)} {idx o : Nat}
theorem z_blind {D : va_G} {cy : Nat → ClassId} {ad0 : Nat → Nat} {sz : Nat} {as : List zA} : FrameBlind (zPre D cy ad0 sz S V as) := fun a U g mk q => ⟨q.1, q.2.1, q.2.2.1, q.2.2.2.1, KK_same (u := U) (U := U.calling g mk a) rfl q.2.2.2.2⟩
theorem TB_ws {y : MethodName} {bytes : ByteArray} {maxL : Nat} {ret : Option FieldType} (h : Cond.code y bytes maxL ret ∈ TB) (pre : List Cond) (hp : ∀ w ∈ pre, w ∈ TB) : GoodIn TB (pre ++ (.code y bytes maxL ret :: TB)) := fun w hw => by
  rcases List.mem_append.mp hw with h1 | h1
  · exact TB_good (hp w h1)
  · rcases List.mem_cons.mp h1 with rfl | h1
    · exact TB_good h
    · exact TB_good h1
/-- behind a call -/
theorem z_back {p : Program} {l : Launch} {e : Env} {R : Room} {s : State} {m : MethodId} {args : Array Value} {below : List Frame} {meth : Method} {c : Code} {D : va_G} {cy : Nat → ClassId} {A : Nat → Prop} {Q : State → Prop} {ad0 ad : Nat → Nat} {n0 mc ms : Nat} {post : Option zA → List zC → zV → Prop} {H : Heap} {locs : List Loc} {ls : Array Slot} {rest : List zA} {st0 : List Value} {a : Array Value}
    (hr : va_Run p l e R s m args below meth c H locs nc ns mc ms (F0 m pc ls st0) (rest.map (cvv ad)) (zPost D cy (va_A (wsW ad cy S V) H.size) ad S.length post a) (va_A (wsW ad cy S V) H.size))
    (hw : zWD D cy A ad0 n0 ad S V H) (hS : va_S A s.heap H locs) (hA : ∀ q, s.heap.size ≤ q → A q) (hL : zLR S.length ad c.maxLocals al ls) (ho : okst S.length rest)
    (kk : ∀ (r : Option zA) (S' : List zC) (V' : zV), post r S' V' → zW (p, l, e, R, s, m, args, below, meth, c, D, cy, A, Q, ad0, n0) S' V' (nc + mc) (ns + ms) al (r.toList ++ rest) (pc + 3)) : W p l e R s m args below meth c H locs nc ns Q (F0 m pc ls st0) := by
  have hsub : ∀ q, va_A (wsW ad cy S V) H.size q → A q := by
    intro q hq
    rcases hq with ⟨k, x, h⟩ | h
    · exact hw.2.1.2 k (q, x) h
    · exact hA q (Nat.le_trans hS.1 h)
  intro T hT X
  obtain ⟨v, st₀, t, T', L, h0, X', hL2, e1, e2, ⟨⟨r, ad', S', V', hv, hp, hok, hw'⟩, hz, hk⟩, stp⟩ := hr T hT X
  cases hv
  rw [h0] at hz hk
  have hle : S.length ≤ S'.length := hw'.2.2.2.2.1
  have hadd := hw'.2.2.2.2.2
  have hw2 : zWD D cy A ad0 n0 ad' S' V' T'.heap := by
    rw [e1]
    refine ⟨hw'.1, hw'.2.1.weaken (fun _ q _ h => hsub q.1 h), hw'.2.2.1, hw'.2.2.2.1, Nat.le_trans hw.2.2.2.2.1 hle, fun k hk2 => ?_⟩
    rw [hadd k (hk2.imp (fun q => Nat.lt_of_lt_of_le q hw.2.2.2.2.1) id)]
    exact hw.2.2.2.2.2 k hk2
  have hS2 : va_S A s.heap T'.heap (locs ++ L) := by
    refine ⟨Nat.le_trans hS.1 (by rw [e1]; exact hz), fun q h1 h2 => ?_, fun q hq => ?_⟩
    · rw [e1, hk q (Nat.lt_of_lt_of_le h1 hS.1) (fun z => h2 (hsub q z))]
      exact hS.2.1 q h1 h2
    · rcases List.mem_append.mp hq with h | h
      · exact hS.2.2 q h
      · exact hsub _ (hL2 q h)
  have hst : (r.toList ++ rest).map (cvv ad') = (r.map (cvv ad')).toList ++ rest.map (cvv ad) := by
    rw [List.map_append, cvv_map hadd (okst_mem ho)]
    cases r <;> rfl
  have hoks : okst S'.length (r.toList ++ rest) := by
    cases r with
    | none => exact okst_mono hle ho
    | some x => exact ⟨hok x rfl, okst_mono hle ho⟩
  obtain ⟨t2, a1, b1⟩ := kk r S' V' hp ad' T'.heap (locs ++ L) ls hw2 hS2 (zLR_to hle hadd hL) hoks T' rfl X'
  rw [hst] at a1
  exact ⟨t2, stp t2 a1, b1⟩
/-- what a call asks of the stack below it -/
def cat8 (rest : List zA) : Prop := (rest.map (fun v => if isJv (some v) then 2 else 1)).sum ≤ 8
theorem cat8_to {rest : List zA} {ad : Nat → Nat} (h : cat8 rest) : ((rest.map (cvv ad)).map fun v => v.category).sum ≤ 8 := by
  have : (rest.map (cvv ad)).map (fun v => v.category) = rest.map (fun v => if isJv (some v) then 2 else 1) := by
    rw [List.map_map]
    apply List.map_congr_left
    intro v _
    exact cvv_cat ad v
  rw [this]
  exact h
theorem z_rev {ad : Nat → Nat} {as rest : List zA} : (as.reverse ++ rest).map (cvv ad) = (as.map (cvv ad)).reverse ++ rest.map (cvv ad) := by rw [List.map_append, List.map_reverse]
theorem z_revR {ad : Nat → Nat} {as rest : List zA} : (as.reverse ++ zR o :: rest).map (cvv ad) = (as.map (cvv ad)).reverse ++ .ref (ad o) :: rest.map (cvv ad) := by rw [List.map_append, List.map_reverse]; rfl
/-- a virtual call of a method of the receiver's own class -/
theorem a_callV (C : zCX X cc nL own nm rm) {y : MethodName} {bytes : ByteArray} {maxL : Nat} {ret : Option FieldType} {rm' : Room} {T : zT} {tag : Nat} {w : Int} {rf : Nat → Option Nat} {as rest : List zA} (n : Nat) (hM : ∀ l, zCT l y bytes maxL ret rm' T)
    (hs : S[o]? = some (tag, w, rf)) (hcl : ∃ T' N, vwCl[tag]? = some (y.cls, T', N)) (htag : tag < 13)
    (h1 : Cond.methodLink own idx y ∈ TB) (h2 : Cond.instanceMethod y ∈ TB) (h3 : Cond.selects y.cls y y ∈ TB) (h4 : Cond.initialized y.cls ∈ TB) (h5 : Cond.code y bytes maxL ret ∈ TB)
    (hdsc : y.cls ≠ "java/lang/invoke/MethodHandle" ∧ y.cls ≠ "java/lang/invoke/VarHandle" ∧ (parseMethodDescriptor y.desc).map (fun d => d.parameters.length) = some n) (hn : as.length = n) (hR : rm'.frames + 1 ≤ rm.frames ∧ 8 + (maxL + 11) + rm'.locals ≤ rm.locals) (hc8 : cat8 rest)
    (hd : decode cc pc = .ok (.invokevirtual idx, 3)) (hf : nc + rm'.cells ≤ rm.cells ∧ ns + rm'.slots ≤ rm.slots)
    (kk : T (zR o :: as) S V (fun r S' V' => zW X S' V' (nc + rm'.cells) (ns + rm'.slots) al (r.toList ++ rest) (pc + 3))) : zW X S V nc ns al (as.reverse ++ zR o :: rest) pc := by
  obtain ⟨p, l, e, R, s, m, args, below, meth, c, D, cy, A, Q, ad0, n0⟩ := X
  obtain ⟨hx, hb, hml, hown, hts, hlk, hK, hA, hRm, -⟩ := C
  subst hRm
  obtain ⟨T', N, g1⟩ := hcl
  intro ad H locs ls hw hS hL ho
  have hoa := okst_app.mp ho
  have hoas : okst S.length (zR o :: as) := ⟨hoa.2.1, by have := okst_rev hoa.1; rwa [List.reverse_reverse] at this⟩
  have he := wsW_at (ad := ad) (cy := cy) (V := V) hs
  rw [cE_obj htag] at he
  have hG : GoodIn TB (wsV own idx y.cls y (.code y bytes maxL ret :: TB)) := TB_ws h5 [.methodLink own idx y, .instanceMethod y, .selects y.cls y y, .initialized y.cls] (fun w hw => by
    simp only [List.mem_cons, List.not_mem_nil, or_false] at hw
    rcases hw with rfl | rfl | rfl | rfl
    · exact h1
    · exact h2
    · exact h3
    · exact h4)
  have hrun := va_runV (As := as.map (cvv ad)) (rest := rest.map (cvv ad)) (b := ad o) (g := F0 m pc ls ((as.reverse ++ zR o :: rest).map (cvv ad))) (e := e) (below := below) (meth := meth) (locs := locs) (cells := nc) (slots := ns) ⟨hx, hb, hml, hown, hts⟩ (hM l D cy ad H.size S V (zR o :: as) _ kk hw.2.2.1 hw.2.2.2.1 hoas)
    (cwV n hts hG rfl rfl rfl ⟨rfl, hdsc⟩ hR) ⟨z_blind, va_recv hK.1 hw.1 g1 he, fun U hU hW => ⟨rfl, by rw [hU], by rw [hU]; exact hw.1, hw.2.1.weaken (fun _ _ _ _ => trivial), KK_warm hW hK⟩⟩ rfl (by rw [List.length_map]; exact hn) (hL.1.trans hml) z_revR (by show 2 * 0 + _ ≤ 8; rw [Nat.mul_zero, Nat.zero_add]; exact cat8_to hc8) hd hf
  exact z_back hrun hw hS hA hL hoa.2.2 (fun r S' V' h => h)
/-- a static call -/
theorem a_callS (C : zCX X cc nL own nm rm) {y : MethodName} {bytes : ByteArray} {maxL : Nat} {ret : Option FieldType} {rm' : Room} {T : zT} {as rest : List zA} (n : Nat) (hM : ∀ l, zCT l y bytes maxL ret rm' T)
    (h1 : Cond.methodLink own idx y ∈ TB) (h2 : Cond.static y ∈ TB) (h4 : Cond.initialized y.cls ∈ TB) (h5 : Cond.code y bytes maxL ret ∈ TB)
    (hdsc : y.cls ≠ "java/lang/invoke/MethodHandle" ∧ y.cls ≠ "java/lang/invoke/VarHandle" ∧ (parseMethodDescriptor y.desc).map (fun d => d.parameters.length) = some n) (hn : as.length = n) (hR : rm'.frames + 1 ≤ rm.frames ∧ 8 + (maxL + 11) + rm'.locals ≤ rm.locals) (hc8 : cat8 rest)
    (hd : decode cc pc = .ok (.invokestatic idx, 3)) (hf : nc + rm'.cells ≤ rm.cells ∧ ns + rm'.slots ≤ rm.slots)
    (kk : T as S V (fun r S' V' => zW X S' V' (nc + rm'.cells) (ns + rm'.slots) al (r.toList ++ rest) (pc + 3))) : zW X S V nc ns al (as.reverse ++ rest) pc := by
  obtain ⟨p, l, e, R, s, m, args, below, meth, c, D, cy, A, Q, ad0, n0⟩ := X
  obtain ⟨hx, hb, hml, hown, hts, hlk, hK, hA, hRm, -⟩ := C
  subst hRm
  intro ad H locs ls hw hS hL ho
  have hoa := okst_app.mp ho
  have hoas : okst S.length as := by have := okst_rev hoa.1; rwa [List.reverse_reverse] at this
  have hG : GoodIn TB (va_wsS own idx y (.code y bytes maxL ret :: TB)) := TB_ws h5 [.methodLink own idx y, .static y, .initialized y.cls] (fun w hw => by
    simp only [List.mem_cons, List.not_mem_nil, or_false] at hw
    rcases hw with rfl | rfl | rfl
    · exact h1
    · exact h2
    · exact h4)
  have hrun := va_runS (As := as.map (cvv ad)) (rest := rest.map (cvv ad)) (g := F0 m pc ls ((as.reverse ++ rest).map (cvv ad))) (e := e) (below := below) (meth := meth) (locs := locs) (cells := nc) (slots := ns) ⟨hx, hb, hml, hown, hts⟩ (hM l D cy ad H.size S V as _ kk hw.2.2.1 hw.2.2.2.1 hoas)
    (va_cwS n hts hG rfl rfl rfl hdsc hR) ⟨z_blind, fun U hU hW => ⟨rfl, by rw [hU], by rw [hU]; exact hw.1, hw.2.1.weaken (fun _ _ _ _ => trivial), KK_warm hW hK⟩⟩ rfl (by rw [List.length_map]; exact hn) (hL.1.trans hml) z_rev (by show 2 * 0 + _ ≤ 8; rw [Nat.mul_zero, Nat.zero_add]; exact cat8_to hc8) hd hf
  exact z_back hrun hw hS hA hL hoa.2 (fun r S' V' h => h)
/-- a static call of a nest mate's private method -/
theorem a_callSN (C : zCX X cc nL own nm rm) {y : MethodName} {bytes : ByteArray} {maxL : Nat} {ret : Option FieldType} {rm' : Room} {T : zT} {as rest : List zA} {host : String} (n : Nat) (hM : ∀ l, zCT l y bytes maxL ret rm' T)
    (h1 : Cond.methodLinkNest own idx y host ∈ zNest) (h2 : Cond.static y ∈ TB) (h4 : Cond.initialized y.cls ∈ TB) (h5 : Cond.code y bytes maxL ret ∈ TB)
    (hdsc : y.cls ≠ "java/lang/invoke/MethodHandle" ∧ y.cls ≠ "java/lang/invoke/VarHandle" ∧ (parseMethodDescriptor y.desc).map (fun d => d.parameters.length) = some n) (hn : as.length = n) (hR : rm'.frames + 1 ≤ rm.frames ∧ 8 + (maxL + 11) + rm'.locals ≤ rm.locals) (hc8 : cat8 rest)
    (hd : decode cc pc = .ok (.invokestatic idx, 3)) (hf : nc + rm'.cells ≤ rm.cells ∧ ns + rm'.slots ≤ rm.slots)
    (kk : T as S V (fun r S' V' => zW X S' V' (nc + rm'.cells) (ns + rm'.slots) al (r.toList ++ rest) (pc + 3))) : zW X S V nc ns al (as.reverse ++ rest) pc := by
  obtain ⟨p, l, e, R, s, m, args, below, meth, c, D, cy, A, Q, ad0, n0⟩ := X
  obtain ⟨hx, hb, hml, hown, hts, hlk, hK, hA, hRm, -⟩ := C
  subst hRm
  intro ad H locs ls hw hS hL ho
  have hoa := okst_app.mp ho
  have hoas : okst S.length as := by have := okst_rev hoa.1; rwa [List.reverse_reverse] at this
  have hG : GoodIn TB (.code y bytes maxL ret :: TB) := TB_ws h5 [] (fun w hw => by cases hw)
  have hrun := va_runSN (As := as.map (cvv ad)) (rest := rest.map (cvv ad)) (g := F0 m pc ls ((as.reverse ++ rest).map (cvv ad))) (e := e) (below := below) (meth := meth) (locs := locs) (cells := nc) (slots := ns) ⟨hx, hb, hml, hown, hts⟩ (hM l D cy ad H.size S V as _ kk hw.2.2.1 hw.2.2.2.1 hoas)
    ⟨va_cnB n hts hG rfl rfl rfl (hK.2.1 _ h1) (hts _ h4) hdsc hR, hts _ h2, trivial⟩ ⟨z_blind, fun U hU hW => ⟨rfl, by rw [hU], by rw [hU]; exact hw.1, hw.2.1.weaken (fun _ _ _ _ => trivial), KK_warm hW hK⟩⟩ rfl (by rw [List.length_map]; exact hn) (hL.1.trans hml) z_rev (by show 2 * 0 + _ ≤ 8; rw [Nat.mul_zero, Nat.zero_add]; exact cat8_to hc8) hd hf
  exact z_back hrun hw hS hA hL hoa.2 (fun r S' V' h => h)
/-- a constructor -/
theorem a_callI (C : zCX X cc nL own nm rm) {y : MethodName} {bytes : ByteArray} {maxL : Nat} {rm' : Room} {T : zT} {as rest : List zA} (n : Nat) (hM : ∀ l, zCT l y bytes maxL none rm' T) (hy1 : y.name = "<init>")
    (h1 : Cond.methodLink own idx y ∈ TB) (h2 : Cond.instanceMethod y ∈ TB) (h4 : Cond.initialized y.cls ∈ TB) (h5 : Cond.code y bytes maxL none ∈ TB)
    (hdsc : y.cls ≠ "java/lang/invoke/MethodHandle" ∧ y.cls ≠ "java/lang/invoke/VarHandle" ∧ (parseMethodDescriptor y.desc).map (fun d => d.parameters.length) = some n) (hn : as.length = n) (hR : rm'.frames + 1 ≤ rm.frames ∧ 8 + (maxL + 11) + rm'.locals ≤ rm.locals) (hc8 : cat8 rest)
    (hd : decode cc pc = .ok (.invokespecial idx, 3)) (hf : nc + rm'.cells ≤ rm.cells ∧ ns + rm'.slots ≤ rm.slots)
    (kk : T (zR o :: as) S V (fun r S' V' => zW X S' V' (nc + rm'.cells) (ns + rm'.slots) al (r.toList ++ rest) (pc + 3))) : zW X S V nc ns al (as.reverse ++ zR o :: rest) pc := by
  obtain ⟨p, l, e, R, s, m, args, below, meth, c, D, cy, A, Q, ad0, n0⟩ := X
  obtain ⟨hx, hb, hml, hown, hts, hlk, hK, hA, hRm, -⟩ := C
  subst hRm
  intro ad H locs ls hw hS hL ho
  have hoa := okst_app.mp ho
  have hoas : okst S.length (zR o :: as) := ⟨hoa.2.1, by have := okst_rev hoa.1; rwa [List.reverse_reverse] at this⟩
  have hG : GoodIn TB (.code y bytes maxL none :: TB) := TB_ws h5 [] (fun w hw => by cases hw)
  have hrun := va_runI (As := as.map (cvv ad)) (rest := rest.map (cvv ad)) (b := ad o) (g := F0 m pc ls ((as.reverse ++ zR o :: rest).map (cvv ad))) (e := e) (below := below) (meth := meth) (locs := locs) (cells := nc) (slots := ns) ⟨hx, hb, hml, hown, hts⟩ (hM l D cy ad H.size S V (zR o :: as) _ kk hw.2.2.1 hw.2.2.2.1 hoas)
    (cwI n hts hG rfl rfl rfl (hts _ h4) (hts _ h1) (hts _ h2) hy1 hdsc hR) ⟨z_blind, fun U hU hW => ⟨rfl, by rw [hU], by rw [hU]; exact hw.1, hw.2.1.weaken (fun _ _ _ _ => trivial), KK_warm hW hK⟩⟩ rfl (by rw [List.length_map]; exact hn) (hL.1.trans hml) z_revR (by show 2 * 0 + _ ≤ 8; rw [Nat.mul_zero, Nat.zero_add]; exact cat8_to hc8) hd hf
  exact z_back hrun hw hS hA hL hoa.2.2 (fun r S' V' h => h)
/-- a nest mate's private constructor -/
theorem a_callIN (C : zCX X cc nL own nm rm) {y : MethodName} {bytes : ByteArray} {maxL : Nat} {rm' : Room} {T : zT} {as rest : List zA} {host : String} (n : Nat) (hM : ∀ l, zCT l y bytes maxL none rm' T) (hy1 : y.name = "<init>")
    (h1 : Cond.methodLinkNest own idx y host ∈ zNest) (h2 : Cond.instanceMethod y ∈ TB) (h4 : Cond.initialized y.cls ∈ TB) (h5 : Cond.code y bytes maxL none ∈ TB)
    (hdsc : y.cls ≠ "java/lang/invoke/MethodHandle" ∧ y.cls ≠ "java/lang/invoke/VarHandle" ∧ (parseMethodDescriptor y.desc).map (fun d => d.parameters.length) = some n) (hn : as.length = n) (hR : rm'.frames + 1 ≤ rm.frames ∧ 8 + (maxL + 11) + rm'.locals ≤ rm.locals) (hc8 : cat8 rest)
    (hd : decode cc pc = .ok (.invokespecial idx, 3)) (hf : nc + rm'.cells ≤ rm.cells ∧ ns + rm'.slots ≤ rm.slots)
    (kk : T (zR o :: as) S V (fun r S' V' => zW X S' V' (nc + rm'.cells) (ns + rm'.slots) al (r.toList ++ rest) (pc + 3))) : zW X S V nc ns al (as.reverse ++ zR o :: rest) pc := by
  obtain ⟨p, l, e, R, s, m, args, below, meth, c, D, cy, A, Q, ad0, n0⟩ := X
  obtain ⟨hx, hb, hml, hown, hts, hlk, hK, hA, hRm, -⟩ := C
  subst hRm
  intro ad H locs ls hw hS hL ho
  have hoa := okst_app.mp ho
  have hoas : okst S.length (zR o :: as) := ⟨hoa.2.1, by have := okst_rev hoa.1; rwa [List.reverse_reverse] at this⟩
  have hG : GoodIn TB (.code y bytes maxL none :: TB) := TB_ws h5 [] (fun w hw => by cases hw)
  have hrun := va_runIN (As := as.map (cvv ad)) (rest := rest.map (cvv ad)) (b := ad o) (g := F0 m pc ls ((as.reverse ++ zR o :: rest).map (cvv ad))) (e := e) (below := below) (meth := meth) (locs := locs) (cells := nc) (slots := ns) ⟨hx, hb, hml, hown, hts⟩ (hM l D cy ad H.size S V (zR o :: as) _ kk hw.2.2.1 hw.2.2.2.1 hoas)
    ⟨va_cnB n hts hG rfl rfl rfl (hK.2.1 _ h1) (hts _ h4) hdsc hR, hy1, hts _ h2⟩ ⟨z_blind, fun U hU hW => ⟨rfl, by rw [hU], by rw [hU]; exact hw.1, hw.2.1.weaken (fun _ _ _ _ => trivial), KK_warm hW hK⟩⟩ rfl (by rw [List.length_map]; exact hn) (hL.1.trans hml) z_revR (by show 2 * 0 + _ ≤ 8; rw [Nat.mul_zero, Nat.zero_add]; exact cat8_to hc8) hd hf
  exact z_back hrun hw hS hA hL hoa.2.2 (fun r S' V' h => h)
end ZC
end
section
/-! ===== calls on a feud, super, instanceof, the library ===== -/
section ZU
variable {X : zM} {cc : ByteArray} {nL : Nat} {own nm : String} {rm : Room} {S : List zC} {V : zV} {nc ns pc : Nat} {al : List (Option zA)} {st : List zA} {idx o : Nat}
/-- a virtual call by the name x of a class above the receiver's: y is what the receiver's class Cr has -/
theorem a_callU (C : zCX X cc nL own nm rm) {x y : MethodName} {bytes : ByteArray} {maxL : Nat} {ret : Option FieldType} {rm' : Room} {T : zT} {tag : Nat} {w : Int} {rf : Nat → Option Nat} {as rest : List zA} {Cr : String} (n : Nat) (hM : ∀ l, zCT l y bytes maxL ret rm' T)
    (hs : S[o]? = some (tag, w, rf)) (hcl : ∃ T' N, vwCl[tag]? = some (Cr, T', N)) (htag : tag < 13)
    (h1 : Cond.methodLink own idx x ∈ TB) (h1s : Cond.sameMethod x.cls x.cls x.name x.desc ∈ TB) (h1i : Cond.instanceMethod x ∈ TB) {b0 : ByteArray} {m0 : Nat} {r0 : Option FieldType} (h0 : Cond.code x b0 m0 r0 ∈ TB) (h2 : Cond.instanceMethod y ∈ TB) (h3 : Cond.selects Cr x y ∈ TB) (h4 : Cond.initialized y.cls ∈ TB) (h5 : Cond.code y bytes maxL ret ∈ TB)
    (hdsc : x.cls ≠ "java/lang/invoke/MethodHandle" ∧ x.cls ≠ "java/lang/invoke/VarHandle" ∧ (parseMethodDescriptor x.desc).map (fun d => d.parameters.length) = some n) (hn : as.length = n) (hR : rm'.frames + 1 ≤ rm.frames ∧ 8 + (maxL + 11) + rm'.locals ≤ rm.locals) (hc8 : cat8 rest)
    (hd : decode cc pc = .ok (.invokevirtual idx, 3)) (hf : nc + rm'.cells ≤ rm.cells ∧ ns + rm'.slots ≤ rm.slots)
    (kk : T (zR o :: as) S V (fun r S' V' => zW X S' V' (nc + rm'.cells) (ns + rm'.slots) al (r.toList ++ rest) (pc + 3))) : zW X S V nc ns al (as.reverse ++ zR o :: rest) pc := by
  obtain ⟨p, l, e, R, s, m, args, below, meth, c, D, cy, A, Q, ad0, n0⟩ := X
  obtain ⟨hx, hb, hml, hown, hts, hlk, hK, hA, hRm, -⟩ := C
  subst hRm
  obtain ⟨T', N, g1⟩ := hcl
  intro ad H locs ls hw hS hL ho
  have hoa := okst_app.mp ho
  have hoas : okst S.length (zR o :: as) := ⟨hoa.2.1, by have := okst_rev hoa.1; rwa [List.reverse_reverse] at this⟩
  have he := wsW_at (ad := ad) (cy := cy) (V := V) hs
  rw [cE_obj htag] at he
  have hG : GoodIn TB (va_wsO own idx Cr x.cls x y (.code y bytes maxL ret :: TB)) := TB_ws h5 [.methodLink own idx x, .sameMethod x.cls x.cls x.name x.desc, .instanceMethod ⟨x.cls, x.name, x.desc⟩, .selects Cr x y, .instanceMethod y, .initialized y.cls] (fun w hw => by
    simp only [List.mem_cons, List.not_mem_nil, or_false] at hw
    rcases hw with rfl | rfl | rfl | rfl | rfl | rfl
    · exact h1
    · exact h1s
    · exact h1i
    · exact h3
    · exact h2
    · exact h4)
  have hrun := va_runU (As := as.map (cvv ad)) (rest := rest.map (cvv ad)) (b := ad o) (g := F0 m pc ls ((as.reverse ++ zR o :: rest).map (cvv ad))) (e := e) (below := below) (meth := meth) (locs := locs) (cells := nc) (slots := ns) ⟨hx, hb, hml, hown, hts⟩ (hM l D cy ad H.size S V (zR o :: as) _ kk hw.2.2.1 hw.2.2.2.1 hoas)
    (va_cwO n hts hG rfl rfl rfl h0 hdsc hR) ⟨z_blind, va_recv hK.1 hw.1 g1 he, fun U hU hW => ⟨rfl, by rw [hU], by rw [hU]; exact hw.1, hw.2.1.weaken (fun _ _ _ _ => trivial), KK_warm hW hK⟩⟩ rfl (by rw [List.length_map]; exact hn) (hL.1.trans hml) z_revR (by show 2 * 0 + _ ≤ 8; rw [Nat.mul_zero, Nat.zero_add]; exact cat8_to hc8) hd hf
  exact z_back hrun hw hS hA hL hoa.2.2 (fun r S' V' h => h)
/-- super.y() -/
theorem a_callSU (C : zCX X cc nL own nm rm) {y : MethodName} {bytes : ByteArray} {maxL : Nat} {ret : Option FieldType} {rm' : Room} {T : zT} {tag : Nat} {w : Int} {rf : Nat → Option Nat} {as rest : List zA} {Cr : String} (n : Nat) (hM : ∀ l, zCT l y bytes maxL ret rm' T)
    (hs : S[o]? = some (tag, w, rf)) (hcl : ∃ T' N, vwCl[tag]? = some (Cr, T', N)) (htag : tag < 13)
    (h1 : Cond.methodLink own idx y ∈ TB) (h1s : Cond.sameMethod y.cls y.cls y.name y.desc ∈ TB) (h1u : Cond.superclass own y.cls ∈ TB) (h2 : Cond.instanceMethod y ∈ TB) (h4 : Cond.initialized y.cls ∈ TB) (h5 : Cond.code y bytes maxL ret ∈ TB)
    (hdsc : y.name ≠ "<init>" ∧ (parseMethodDescriptor y.desc).map (fun d => d.parameters.length) = some n) (hn : as.length = n) (hR : rm'.frames + 1 ≤ rm.frames ∧ 8 + (maxL + 11) + rm'.locals ≤ rm.locals) (hc8 : cat8 rest)
    (hd : decode cc pc = .ok (.invokespecial idx, 3)) (hf : nc + rm'.cells ≤ rm.cells ∧ ns + rm'.slots ≤ rm.slots)
    (kk : T (zR o :: as) S V (fun r S' V' => zW X S' V' (nc + rm'.cells) (ns + rm'.slots) al (r.toList ++ rest) (pc + 3))) : zW X S V nc ns al (as.reverse ++ zR o :: rest) pc := by
  obtain ⟨p, l, e, R, s, m, args, below, meth, c, D, cy, A, Q, ad0, n0⟩ := X
  obtain ⟨hx, hb, hml, hown, hts, hlk, hK, hA, hRm, -⟩ := C
  subst hRm
  obtain ⟨T', N, g1⟩ := hcl
  intro ad H locs ls hw hS hL ho
  have hoa := okst_app.mp ho
  have hoas : okst S.length (zR o :: as) := ⟨hoa.2.1, by have := okst_rev hoa.1; rwa [List.reverse_reverse] at this⟩
  have he := wsW_at (ad := ad) (cy := cy) (V := V) hs
  rw [cE_obj htag] at he
  have hG : GoodIn TB (va_wsSU own idx y (.code y bytes maxL ret :: TB)) := TB_ws h5 [.methodLink own idx y, .sameMethod y.cls y.cls y.name y.desc, .superclass own y.cls, .instanceMethod y, .initialized y.cls] (fun w hw => by
    simp only [List.mem_cons, List.not_mem_nil, or_false] at hw
    rcases hw with rfl | rfl | rfl | rfl | rfl
    · exact h1
    · exact h1s
    · exact h1u
    · exact h2
    · exact h4)
  have hrun := va_runSU (As := as.map (cvv ad)) (rest := rest.map (cvv ad)) (b := ad o) (g := F0 m pc ls ((as.reverse ++ zR o :: rest).map (cvv ad))) (e := e) (below := below) (meth := meth) (locs := locs) (cells := nc) (slots := ns) (hK.1.1 tag _ g1).2 ⟨hx, hb, hml, hown, hts⟩ (hM l D cy ad H.size S V (zR o :: as) _ kk hw.2.2.1 hw.2.2.2.1 hoas)
    (va_cwSU n hts hG rfl rfl rfl hdsc hR) ⟨z_blind, va_recv hK.1 hw.1 g1 he, fun U hU hW => ⟨rfl, by rw [hU], by rw [hU]; exact hw.1, hw.2.1.weaken (fun _ _ _ _ => trivial), KK_warm hW hK⟩⟩ rfl (by rw [List.length_map]; exact hn) (hL.1.trans hml) z_revR (by show 2 * 0 + _ ≤ 8; rw [Nat.mul_zero, Nat.zero_add]; exact cat8_to hc8) hd hf
  exact z_back hrun hw hS hA hL hoa.2.2 (fun r S' V' h => h)
theorem a_instS (C : zCX X cc nL own nm rm) {tag : Nat} {w : Int} {rf : Nat → Option Nat} {Cr : String} (hs : S[o]? = some (tag, w, rf)) (hcl : ∃ T' N, vwCl[tag]? = some (Cr, T', N)) (htag : tag < 13) (h1 : Cond.classLink own idx Cr ∈ TB) (hd : decode cc pc = .ok (.instanceof idx, 3)) (k : zW X S V nc ns al (zI 1 :: st) (pc + 3)) : zW X S V nc ns al (zR o :: st) pc := by
  obtain ⟨p, l, e, R, s, m, args, below, meth, c, D, cy, A, Q, ad0, n0⟩ := X
  obtain ⟨hx, hb, hml, hown, hts, hlk, hK, hA, hRm, -⟩ := C
  obtain ⟨T', N, g1⟩ := hcl
  intro ad H locs ls hw hS hL ho
  have he := wsW_at (ad := ad) (cy := cy) (V := V) hs
  rw [cE_obj htag] at he
  exact va_instS hx hb hown (hts _ h1) (hK.1.1 tag _ g1).2 (va_recv hK.1 hw.1 g1 he) hd (k ad H locs ls hw hS hL ⟨trivial, ho.2⟩)
theorem a_instY (C : zCX X cc nL own nm rm) {tag : Nat} {w : Int} {rf : Nat → Option Nat} {Cr Ct : String} (hs : S[o]? = some (tag, w, rf)) (hcl : ∃ T' N, vwCl[tag]? = some (Cr, T', N)) (htag : tag < 13) (hca : (Cr, Ct) ∈ zCast) (h1 : Cond.classLink own idx Ct ∈ TB) (hd : decode cc pc = .ok (.instanceof idx, 3)) (k : zW X S V nc ns al (zI 1 :: st) (pc + 3)) : zW X S V nc ns al (zR o :: st) pc := by
  obtain ⟨p, l, e, R, s, m, args, below, meth, c, D, cy, A, Q, ad0, n0⟩ := X
  obtain ⟨hx, hb, hml, hown, hts, hlk, hK, hA, hRm, -⟩ := C
  obtain ⟨T', N, g1⟩ := hcl
  intro ad H locs ls hw hS hL ho
  have he := wsW_at (ad := ad) (cy := cy) (V := V) hs
  rw [cE_obj htag] at he
  exact va_instY hx hb hown (hts _ h1) (hK.2.2.1 _ hca) (va_recv hK.1 hw.1 g1 he) hd (k ad H locs ls hw hS hL ⟨trivial, ho.2⟩)
theorem a_instN (C : zCX X cc nL own nm rm) {tag : Nat} {w : Int} {rf : Nat → Option Nat} {Cr Ct : String} (hs : S[o]? = some (tag, w, rf)) (hcl : ∃ T' N, vwCl[tag]? = some (Cr, T', N)) (htag : tag < 13) (hca : (Cr, Ct) ∈ zNoC) (h1 : Cond.classLink own idx Ct ∈ TB) (hd : decode cc pc = .ok (.instanceof idx, 3)) (k : zW X S V nc ns al (zI 0 :: st) (pc + 3)) : zW X S V nc ns al (zR o :: st) pc := by
  obtain ⟨p, l, e, R, s, m, args, below, meth, c, D, cy, A, Q, ad0, n0⟩ := X
  obtain ⟨hx, hb, hml, hown, hts, hlk, hK, hA, hRm, -⟩ := C
  obtain ⟨T', N, g1⟩ := hcl
  intro ad H locs ls hw hS hL ho
  have he := wsW_at (ad := ad) (cy := cy) (V := V) hs
  rw [cE_obj htag] at he
  exact va_instNo hx hb hown (hts _ h1) (hK.2.2.2.1 _ hca) (va_recv hK.1 hw.1 g1 he) hd (k ad H locs ls hw hS hL ⟨trivial, ho.2⟩)
theorem a_min (C : zCX X cc nL own nm rm) {x y : Int} (h : inR x ∧ inR y) (h1 : Cond.methodLink own idx Lib.Math.min.name ∈ TB) (h2 : Cond.static Lib.Math.min.name ∈ TB) (h3 : Cond.initialized "java/lang/Math" ∈ TB) (h4 : Cond.code Lib.Math.min.name Lib.Math.min.code 2 (some .int) ∈ TB) (hf : 1 ≤ rm.frames) (hl : 21 ≤ rm.locals) (hc8 : cat8 st) (hnc : nc ≤ rm.cells) (hns : ns ≤ rm.slots) (hd : decode cc pc = .ok (.invokestatic idx, 3)) (k : zW X S V nc ns al (zI (if y < x then y else x) :: st) (pc + 3)) : zW X S V nc ns al (zI y :: zI x :: st) pc := by
  obtain ⟨p, l, e, R, s, m, args, below, meth, c, D, cy, A, Q, ad0, n0⟩ := X
  obtain ⟨hx, hb, hml, hown, hts, hlk, hK, hA, hRm, -⟩ := C
  subst hRm
  intro ad H locs ls hw hS hL ho
  have h8 := cat8_to (ad := ad) hc8
  refine va_mmin hx hb hL.1.symm hown (hts _ h1) (hts _ h2) (hts _ h3) (hts _ h4) hf (Nat.le_trans (Nat.add_le_add_right h8 13) hl) hnc hns hd ?_
  have e1 : (if Int32.ofInt y < Int32.ofInt x then Int32.ofInt y else Int32.ofInt x) = Int32.ofInt (if y < x then y else x) := by
    by_cases hq : y < x
    · rw [if_pos hq, if_pos ((z_lt h.2 h.1).mpr hq)]
    · rw [if_neg hq, if_neg (mt (z_lt h.2 h.1).mp hq)]
  rw [e1]
  exact k ad H locs ls hw hS hL ⟨trivial, ho.2.2⟩
theorem a_max (C : zCX X cc nL own nm rm) {x y : Int} (h : inR x ∧ inR y) (h1 : Cond.methodLink own idx Lib.Math.max.name ∈ TB) (h2 : Cond.static Lib.Math.max.name ∈ TB) (h3 : Cond.initialized "java/lang/Math" ∈ TB) (h4 : Cond.code Lib.Math.max.name Lib.Math.max.code 2 (some .int) ∈ TB) (hf : 1 ≤ rm.frames) (hl : 21 ≤ rm.locals) (hc8 : cat8 st) (hnc : nc ≤ rm.cells) (hns : ns ≤ rm.slots) (hd : decode cc pc = .ok (.invokestatic idx, 3)) (k : zW X S V nc ns al (zI (if x < y then y else x) :: st) (pc + 3)) : zW X S V nc ns al (zI y :: zI x :: st) pc := by
  obtain ⟨p, l, e, R, s, m, args, below, meth, c, D, cy, A, Q, ad0, n0⟩ := X
  obtain ⟨hx, hb, hml, hown, hts, hlk, hK, hA, hRm, -⟩ := C
  subst hRm
  intro ad H locs ls hw hS hL ho
  have h8 := cat8_to (ad := ad) hc8
  refine va_mmax hx hb hL.1.symm hown (hts _ h1) (hts _ h2) (hts _ h3) (hts _ h4) hf (Nat.le_trans (Nat.add_le_add_right h8 13) hl) hnc hns hd ?_
  have e1 : (if Int32.ofInt x < Int32.ofInt y then Int32.ofInt y else Int32.ofInt x) = Int32.ofInt (if x < y then y else x) := by
    by_cases hq : x < y
    · rw [if_pos hq, if_pos ((z_lt h.1 h.2).mpr hq)]
    · rw [if_neg hq, if_neg (mt (z_lt h.1 h.2).mp hq)]
  rw [e1]
  exact k ad H locs ls hw hS hL ⟨trivial, ho.2.2⟩
/-- a row of ints is copied onto another, from the first place on -/
def cpz (f g : Nat → Int) (n : Nat) : Nat → Int := fun j => if j < n then f j else g j
theorem a_copy (C : zCX X cc nL own nm rm) {o0 o1 : Nat} {n0 n1 n : Int} {rf0 rf1 : Nat → Option Nat} (hs0 : S[o0]? = some (13, n0, rf0)) (hs1 : S[o1]? = some (13, n1, rf1)) (hn : 0 ≤ n ∧ n ≤ n0 ∧ n ≤ n1 ∧ n0 < 2147483648 ∧ n1 < 2147483648) (h1 : Cond.methodLink own idx arraycopyName ∈ TB) (h2 : Cond.native arraycopyName ∈ TB) (h3 : Cond.static arraycopyName ∈ TB) (h4 : Cond.initialized "java/lang/System" ∈ TB) (hf : 1 ≤ rm.frames) (hl : nativeFrameWords "java/lang/System" "arraycopy" 5 + 11 + 8 ≤ rm.locals) (hc8 : cat8 st) (hd : decode cc pc = .ok (.invokestatic idx, 3)) (k : zW X S (vrow V o1 (cpz (V o0) (V o1) n.toNat)) nc ns al st (pc + 3)) : zW X S V nc ns al (zI n :: zI 0 :: zR o1 :: zI 0 :: zR o0 :: st) pc := by
  obtain ⟨p, l, e, R, s, m, args, below, meth, c, D, cy, A, Q, ad0, nz⟩ := X
  obtain ⟨hx, hb, hml, hown, hts, hlk, hK, hA, hRm, -⟩ := C
  subst hRm
  intro ad H locs ls hw hS hL ho
  have h8 := cat8_to (ad := ad) hc8
  have hnn : (Int32.ofInt n).toNatClampNeg = n.toNat := z_clamp hn.1 (by omega)
  have h00 : (Int32.ofInt 0).toNatClampNeg = 0 := by decide
  refine va_copyi hx hb hL.1.symm hown (hts _ h1) (hts _ h2) (hts _ h3) (hts _ h4) hK.1 hw.1 hw.2.1 hS o0 o1 0 0 (wsW_at (ad := ad) (cy := cy) (V := V) hs0) (wsW_at (ad := ad) (cy := cy) (V := V) hs1) (ty := .int) rfl rfl rfl (by decide) (by decide) (z_neg hn.1 (by omega)) (by rw [hnn, h00]; show 0 + _ ≤ n0.toNat; omega) (by rw [hnn, h00]; show 0 + _ ≤ n1.toNat; omega) (fun _ _ => rfl) hf (by omega) hd (fun H1 locs1 hP1 hD1 hS1 => ?_)
  rw [hnn, h00] at hP1 hD1
  have hws : (wsW ad cy S V).set o1 (ad o1, .inl (cy 0, n1.toNat, .inl (va_cpy (fun j => Int32.ofInt (V o0 j)) (fun j => Int32.ofInt (V o1 j)) 0 0 n.toNat))) = wsW ad cy S (vrow V o1 (cpz (V o0) (V o1) n.toNat)) := by
    rw [← wsW_setV (V' := vrow V o1 (cpz (V o0) (V o1) n.toNat)) hs1 (fun c' hc => vrow_n hc), vrow_s]
    have e1 : (va_cpy (fun j => Int32.ofInt (V o0 j)) (fun j => Int32.ofInt (V o1 j)) 0 0 n.toNat) = (fun j => Int32.ofInt (cpz (V o0) (V o1) n.toNat j)) := by
      funext j
      unfold va_cpy cpz
      by_cases hj : j < n.toNat
      · rw [if_pos ⟨Nat.zero_le _, by omega⟩, if_pos hj, show 0 + (j - 0) = j by omega]
      · rw [if_neg (by omega), if_neg hj]
    rw [e1]
    rfl
  have hP1 := (congrArg (fun z => va_P D vwCl z H1) hws).mp hP1
  have hD1 := (congrArg (fun z => va_D A z) hws).mp hD1
  refine k ad H1 locs1 ls ⟨hP1, hD1, hw.2.2.1, inV_row hw.2.2.2.1 (fun sc hsc j => ?_), hw.2.2.2.2⟩ hS1 hL ho.2.2.2.2.2
  cases hs1.symm.trans hsc
  unfold cpz
  split
  · exact hw.2.2.2.1 o0 _ hs0 j
  · exact hw.2.2.2.1 o1 _ hs1 j
end ZU
end
section
theorem inT0 : ∀ w ∈ u_ws RX0 TX0 1, w ∈ TB := fun w hw => by
  have h : (u_ws RX0 TX0 1).all (fun w => decide (w ∈ lw_tbl) && goodWord w) = true := by decide +kernel
  have h1 := List.all_eq_true.mp h w hw
  simp only [Bool.and_eq_true, decide_eq_true_eq] at h1
  exact TB_of h1.1 h1.2
theorem inT1 : ∀ w ∈ u_ws RX1 TX1 1, w ∈ TB := fun w hw => by
  have h : (u_ws RX1 TX1 1).all (fun w => decide (w ∈ lw_tbl) && goodWord w) = true := by decide +kernel
  have h1 := List.all_eq_true.mp h w hw
  simp only [Bool.and_eq_true, decide_eq_true_eq] at h1
  exact TB_of h1.1 h1.2
theorem inT2 : ∀ w ∈ u_ws RX2 TX2 1, w ∈ TB := fun w hw => by
  have h : (u_ws RX2 TX2 1).all (fun w => decide (w ∈ lw_tbl) && goodWord w) = true := by decide +kernel
  have h1 := List.all_eq_true.mp h w hw
  simp only [Bool.and_eq_true, decide_eq_true_eq] at h1
  exact TB_of h1.1 h1.2
theorem inT3 : ∀ w ∈ u_ws RX3 TX3 1, w ∈ TB := fun w hw => by
  have h : (u_ws RX3 TX3 1).all (fun w => decide (w ∈ lw_tbl) && goodWord w) = true := by decide +kernel
  have h1 := List.all_eq_true.mp h w hw
  simp only [Bool.and_eq_true, decide_eq_true_eq] at h1
  exact TB_of h1.1 h1.2
theorem inT4 : ∀ w ∈ u_ws RX4 TX4 13, w ∈ TB := fun w hw => by
  have h : (u_ws RX4 TX4 13).all (fun w => decide (w ∈ lw_tbl) && goodWord w) = true := by decide +kernel
  have h1 := List.all_eq_true.mp h w hw
  simp only [Bool.and_eq_true, decide_eq_true_eq] at h1
  exact TB_of h1.1 h1.2
theorem inT5 : ∀ w ∈ u_ws RX5 TX5 1, w ∈ TB := fun w hw => by
  have h : (u_ws RX5 TX5 1).all (fun w => decide (w ∈ lw_tbl) && goodWord w) = true := by decide +kernel
  have h1 := List.all_eq_true.mp h w hw
  simp only [Bool.and_eq_true, decide_eq_true_eq] at h1
  exact TB_of h1.1 h1.2
theorem inT6 : ∀ w ∈ u_ws RX6 TX6 4, w ∈ TB := fun w hw => by
  have h : (u_ws RX6 TX6 4).all (fun w => decide (w ∈ lw_tbl) && goodWord w) = true := by decide +kernel
  have h1 := List.all_eq_true.mp h w hw
  simp only [Bool.and_eq_true, decide_eq_true_eq] at h1
  exact TB_of h1.1 h1.2
theorem inT7 : ∀ w ∈ u_ws RX7 TX7 2, w ∈ TB := fun w hw => by
  have h : (u_ws RX7 TX7 2).all (fun w => decide (w ∈ lw_tbl) && goodWord w) = true := by decide +kernel
  have h1 := List.all_eq_true.mp h w hw
  simp only [Bool.and_eq_true, decide_eq_true_eq] at h1
  exact TB_of h1.1 h1.2
theorem inT8 : ∀ w ∈ u_ws RX8 TX8 4, w ∈ TB := fun w hw => by
  have h : (u_ws RX8 TX8 4).all (fun w => decide (w ∈ lw_tbl) && goodWord w) = true := by decide +kernel
  have h1 := List.all_eq_true.mp h w hw
  simp only [Bool.and_eq_true, decide_eq_true_eq] at h1
  exact TB_of h1.1 h1.2
theorem inT9 : ∀ w ∈ u_ws RX9 TX9 1, w ∈ TB := fun w hw => by
  have h : (u_ws RX9 TX9 1).all (fun w => decide (w ∈ lw_tbl) && goodWord w) = true := by decide +kernel
  have h1 := List.all_eq_true.mp h w hw
  simp only [Bool.and_eq_true, decide_eq_true_eq] at h1
  exact TB_of h1.1 h1.2
theorem inT10 : ∀ w ∈ u_ws RX10 TX10 3, w ∈ TB := fun w hw => by
  have h : (u_ws RX10 TX10 3).all (fun w => decide (w ∈ lw_tbl) && goodWord w) = true := by decide +kernel
  have h1 := List.all_eq_true.mp h w hw
  simp only [Bool.and_eq_true, decide_eq_true_eq] at h1
  exact TB_of h1.1 h1.2
theorem inT11 : ∀ w ∈ u_ws RX11 TX11 10, w ∈ TB := fun w hw => by
  have h : (u_ws RX11 TX11 10).all (fun w => decide (w ∈ lw_tbl) && goodWord w) = true := by decide +kernel
  have h1 := List.all_eq_true.mp h w hw
  simp only [Bool.and_eq_true, decide_eq_true_eq] at h1
  exact TB_of h1.1 h1.2
theorem inT12 : ∀ w ∈ u_ws RX12 TX12 26, w ∈ TB := fun w hw => by
  have h : (u_ws RX12 TX12 26).all (fun w => decide (w ∈ lw_tbl) && goodWord w) = true := by decide +kernel
  have h1 := List.all_eq_true.mp h w hw
  simp only [Bool.and_eq_true, decide_eq_true_eq] at h1
  exact TB_of h1.1 h1.2
theorem fl_X8_9_8 : zF RX8 9 8 0 (.array .int) true := ⟨RX8, TX8, 4, tyX8, rfl, inT8, by decide, TB_tab 32 (by decide +kernel) rfl, tyX8_ok, nmX8, rfl, rfl, rfl, by decide⟩
theorem fl_X8_15_8 : zF RX8 15 8 1 .int false := ⟨RX8, TX8, 4, tyX8, rfl, inT8, by decide, TB_tab 33 (by decide +kernel) rfl, tyX8_ok, nmX8, rfl, rfl, rfl, by decide⟩
theorem fl_X10_28_8 : zF RX10 28 8 1 .int false := ⟨RX8, TX8, 4, tyX8, rfl, inT8, by decide, TB_tab 34 (by decide +kernel) rfl, tyX8_ok, nmX8, rfl, rfl, rfl, by decide⟩
theorem fl_X11_71_8 : zF RX11 71 8 1 .int false := ⟨RX8, TX8, 4, tyX8, rfl, inT8, by decide, TB_tab 35 (by decide +kernel) rfl, tyX8_ok, nmX8, rfl, rfl, rfl, by decide⟩
theorem fl_X8_19_8 : zF RX8 19 8 2 .int false := ⟨RX8, TX8, 4, tyX8, rfl, inT8, by decide, TB_tab 36 (by decide +kernel) rfl, tyX8_ok, nmX8, rfl, rfl, rfl, by decide⟩
theorem fl_X11_81_8 : zF RX11 81 8 2 .int false := ⟨RX8, TX8, 4, tyX8, rfl, inT8, by decide, TB_tab 37 (by decide +kernel) rfl, tyX8_ok, nmX8, rfl, rfl, rfl, by decide⟩
theorem fl_X8_22_8 : zF RX8 22 8 3 .int false := ⟨RX8, TX8, 4, tyX8, rfl, inT8, by decide, TB_tab 38 (by decide +kernel) rfl, tyX8_ok, nmX8, rfl, rfl, rfl, by decide⟩
theorem fl_X2_9_0 : zF RX2 9 0 0 .int true := ⟨RX0, TX0, 1, tyX0, rfl, inT0, by decide, TB_tab 62 (by decide +kernel) rfl, tyX0_ok, nmX0, rfl, rfl, rfl, by decide⟩
theorem fl_X2_9_2 : zF RX2 9 2 0 .int true := ⟨RX2, TX2, 1, tyX2, rfl, inT2, by decide, TB_tab 62 (by decide +kernel) rfl, tyX2_ok, nmX2, rfl, rfl, rfl, by decide⟩
theorem fl_X2_9_3 : zF RX2 9 3 0 .int true := ⟨RX3, TX3, 1, tyX3, rfl, inT3, by decide, TB_tab 62 (by decide +kernel) rfl, tyX3_ok, nmX3, rfl, rfl, rfl, by decide⟩
theorem fl_X2_9_5 : zF RX2 9 5 0 .int true := ⟨RX5, TX5, 1, tyX5, rfl, inT5, by decide, TB_tab 62 (by decide +kernel) rfl, tyX5_ok, nmX5, rfl, rfl, rfl, by decide⟩
theorem fl_X2_9_9 : zF RX2 9 9 0 .int true := ⟨RX9, TX9, 1, tyX9, rfl, inT9, by decide, TB_tab 62 (by decide +kernel) rfl, tyX9_ok, nmX9, rfl, rfl, rfl, by decide⟩
theorem fl_X7_45_0 : zF RX7 45 0 0 .int true := ⟨RX0, TX0, 1, tyX0, rfl, inT0, by decide, TB_tab 63 (by decide +kernel) rfl, tyX0_ok, nmX0, rfl, rfl, rfl, by decide⟩
theorem fl_X7_45_2 : zF RX7 45 2 0 .int true := ⟨RX2, TX2, 1, tyX2, rfl, inT2, by decide, TB_tab 63 (by decide +kernel) rfl, tyX2_ok, nmX2, rfl, rfl, rfl, by decide⟩
theorem fl_X7_45_3 : zF RX7 45 3 0 .int true := ⟨RX3, TX3, 1, tyX3, rfl, inT3, by decide, TB_tab 63 (by decide +kernel) rfl, tyX3_ok, nmX3, rfl, rfl, rfl, by decide⟩
theorem fl_X7_45_5 : zF RX7 45 5 0 .int true := ⟨RX5, TX5, 1, tyX5, rfl, inT5, by decide, TB_tab 63 (by decide +kernel) rfl, tyX5_ok, nmX5, rfl, rfl, rfl, by decide⟩
theorem fl_X7_45_9 : zF RX7 45 9 0 .int true := ⟨RX9, TX9, 1, tyX9, rfl, inT9, by decide, TB_tab 63 (by decide +kernel) rfl, tyX9_ok, nmX9, rfl, rfl, rfl, by decide⟩
theorem fl_X11_110_0 : zF RX11 110 0 0 .int true := ⟨RX0, TX0, 1, tyX0, rfl, inT0, by decide, TB_tab 66 (by decide +kernel) rfl, tyX0_ok, nmX0, rfl, rfl, rfl, by decide⟩
theorem fl_X11_110_2 : zF RX11 110 2 0 .int true := ⟨RX2, TX2, 1, tyX2, rfl, inT2, by decide, TB_tab 66 (by decide +kernel) rfl, tyX2_ok, nmX2, rfl, rfl, rfl, by decide⟩
theorem fl_X11_110_3 : zF RX11 110 3 0 .int true := ⟨RX3, TX3, 1, tyX3, rfl, inT3, by decide, TB_tab 66 (by decide +kernel) rfl, tyX3_ok, nmX3, rfl, rfl, rfl, by decide⟩
theorem fl_X11_110_5 : zF RX11 110 5 0 .int true := ⟨RX5, TX5, 1, tyX5, rfl, inT5, by decide, TB_tab 66 (by decide +kernel) rfl, tyX5_ok, nmX5, rfl, rfl, rfl, by decide⟩
theorem fl_X11_110_9 : zF RX11 110 9 0 .int true := ⟨RX9, TX9, 1, tyX9, rfl, inT9, by decide, TB_tab 66 (by decide +kernel) rfl, tyX9_ok, nmX9, rfl, rfl, rfl, by decide⟩
theorem fl_X4_136_0 : zF RX4 136 0 0 .int true := ⟨RX0, TX0, 1, tyX0, rfl, inT0, by decide, TB_tab 67 (by decide +kernel) rfl, tyX0_ok, nmX0, rfl, rfl, rfl, by decide⟩
theorem fl_X4_136_2 : zF RX4 136 2 0 .int true := ⟨RX2, TX2, 1, tyX2, rfl, inT2, by decide, TB_tab 67 (by decide +kernel) rfl, tyX2_ok, nmX2, rfl, rfl, rfl, by decide⟩
theorem fl_X4_136_3 : zF RX4 136 3 0 .int true := ⟨RX3, TX3, 1, tyX3, rfl, inT3, by decide, TB_tab 67 (by decide +kernel) rfl, tyX3_ok, nmX3, rfl, rfl, rfl, by decide⟩
theorem fl_X4_136_5 : zF RX4 136 5 0 .int true := ⟨RX5, TX5, 1, tyX5, rfl, inT5, by decide, TB_tab 67 (by decide +kernel) rfl, tyX5_ok, nmX5, rfl, rfl, rfl, by decide⟩
theorem fl_X4_136_9 : zF RX4 136 9 0 .int true := ⟨RX9, TX9, 1, tyX9, rfl, inT9, by decide, TB_tab 67 (by decide +kernel) rfl, tyX9_ok, nmX9, rfl, rfl, rfl, by decide⟩
theorem fl_X10_11_10 : zF RX10 11 10 0 (.array (.object "ClosedFeuds$Feud")) true := ⟨RX10, TX10, 3, tyX10, rfl, inT10, by decide, TB_tab 71 (by decide +kernel) rfl, tyX10_ok, nmX10, rfl, rfl, rfl, by decide⟩
theorem fl_X7_41_10 : zF RX7 41 10 0 (.array (.object "ClosedFeuds$Feud")) true := ⟨RX10, TX10, 3, tyX10, rfl, inT10, by decide, TB_tab 72 (by decide +kernel) rfl, tyX10_ok, nmX10, rfl, rfl, rfl, by decide⟩
theorem fl_X11_101_10 : zF RX11 101 10 0 (.array (.object "ClosedFeuds$Feud")) true := ⟨RX10, TX10, 3, tyX10, rfl, inT10, by decide, TB_tab 73 (by decide +kernel) rfl, tyX10_ok, nmX10, rfl, rfl, rfl, by decide⟩
theorem fl_X4_75_10 : zF RX4 75 10 0 (.array (.object "ClosedFeuds$Feud")) true := ⟨RX10, TX10, 3, tyX10, rfl, inT10, by decide, TB_tab 74 (by decide +kernel) rfl, tyX10_ok, nmX10, rfl, rfl, rfl, by decide⟩
theorem fl_X10_17_10 : zF RX10 17 10 1 (.array .int) true := ⟨RX10, TX10, 3, tyX10, rfl, inT10, by decide, TB_tab 75 (by decide +kernel) rfl, tyX10_ok, nmX10, rfl, rfl, rfl, by decide⟩
theorem fl_X4_62_10 : zF RX4 62 10 1 (.array .int) true := ⟨RX10, TX10, 3, tyX10, rfl, inT10, by decide, TB_tab 76 (by decide +kernel) rfl, tyX10_ok, nmX10, rfl, rfl, rfl, by decide⟩
theorem fl_X10_21_10 : zF RX10 21 10 2 .int false := ⟨RX10, TX10, 3, tyX10, rfl, inT10, by decide, TB_tab 77 (by decide +kernel) rfl, tyX10_ok, nmX10, rfl, rfl, rfl, by decide⟩
theorem fl_X7_31_10 : zF RX7 31 10 2 .int false := ⟨RX10, TX10, 3, tyX10, rfl, inT10, by decide, TB_tab 78 (by decide +kernel) rfl, tyX10_ok, nmX10, rfl, rfl, rfl, by decide⟩
theorem fl_X4_57_10 : zF RX4 57 10 2 .int false := ⟨RX10, TX10, 3, tyX10, rfl, inT10, by decide, TB_tab 79 (by decide +kernel) rfl, tyX10_ok, nmX10, rfl, rfl, rfl, by decide⟩
theorem fl_X11_95_10 : zF RX11 95 10 2 .int false := ⟨RX10, TX10, 3, tyX10, rfl, inT10, by decide, TB_tab 80 (by decide +kernel) rfl, tyX10_ok, nmX10, rfl, rfl, rfl, by decide⟩
theorem fl_X4_50_4 : zF RX4 50 4 0 (.object "ClosedFeuds$TheList") true := ⟨RX4, TX4, 13, tyX4, rfl, inT4, by decide, TB_tab 98 (by decide +kernel) rfl, tyX4_ok, nmX4, rfl, rfl, rfl, by decide⟩
theorem fl_X7_25_4 : zF RX7 25 4 0 (.object "ClosedFeuds$TheList") true := ⟨RX4, TX4, 13, tyX4, rfl, inT4, by decide, TB_tab 99 (by decide +kernel) rfl, tyX4_ok, nmX4, rfl, rfl, rfl, by decide⟩
theorem fl_X4_9_4 : zF RX4 9 4 1 (.array .int) true := ⟨RX4, TX4, 13, tyX4, rfl, inT4, by decide, TB_tab 100 (by decide +kernel) rfl, tyX4_ok, nmX4, rfl, rfl, rfl, by decide⟩
theorem fl_X11_134_4 : zF RX11 134 4 1 (.array .int) true := ⟨RX4, TX4, 13, tyX4, rfl, inT4, by decide, TB_tab 101 (by decide +kernel) rfl, tyX4_ok, nmX4, rfl, rfl, rfl, by decide⟩
theorem fl_X4_15_4 : zF RX4 15 4 2 (.array .int) true := ⟨RX4, TX4, 13, tyX4, rfl, inT4, by decide, TB_tab 102 (by decide +kernel) rfl, tyX4_ok, nmX4, rfl, rfl, rfl, by decide⟩
theorem fl_X11_138_4 : zF RX11 138 4 2 (.array .int) true := ⟨RX4, TX4, 13, tyX4, rfl, inT4, by decide, TB_tab 103 (by decide +kernel) rfl, tyX4_ok, nmX4, rfl, rfl, rfl, by decide⟩
theorem fl_X4_18_4 : zF RX4 18 4 3 (.array .boolean) true := ⟨RX4, TX4, 13, tyX4, rfl, inT4, by decide, TB_tab 104 (by decide +kernel) rfl, tyX4_ok, nmX4, rfl, rfl, rfl, by decide⟩
theorem fl_X6_33_4 : zF RX6 33 4 3 (.array .boolean) true := ⟨RX4, TX4, 13, tyX4, rfl, inT4, by decide, TB_tab 105 (by decide +kernel) rfl, tyX4_ok, nmX4, rfl, rfl, rfl, by decide⟩
theorem fl_X11_141_4 : zF RX11 141 4 3 (.array .boolean) true := ⟨RX4, TX4, 13, tyX4, rfl, inT4, by decide, TB_tab 106 (by decide +kernel) rfl, tyX4_ok, nmX4, rfl, rfl, rfl, by decide⟩
theorem fl_X4_22_4 : zF RX4 22 4 4 (.array .int) true := ⟨RX4, TX4, 13, tyX4, rfl, inT4, by decide, TB_tab 107 (by decide +kernel) rfl, tyX4_ok, nmX4, rfl, rfl, rfl, by decide⟩
theorem fl_X4_25_4 : zF RX4 25 4 5 (.array .int) true := ⟨RX4, TX4, 13, tyX4, rfl, inT4, by decide, TB_tab 108 (by decide +kernel) rfl, tyX4_ok, nmX4, rfl, rfl, rfl, by decide⟩
theorem fl_X11_183_4 : zF RX11 183 4 5 (.array .int) true := ⟨RX4, TX4, 13, tyX4, rfl, inT4, by decide, TB_tab 109 (by decide +kernel) rfl, tyX4_ok, nmX4, rfl, rfl, rfl, by decide⟩
theorem fl_X4_28_4 : zF RX4 28 4 6 (.array .boolean) true := ⟨RX4, TX4, 13, tyX4, rfl, inT4, by decide, TB_tab 110 (by decide +kernel) rfl, tyX4_ok, nmX4, rfl, rfl, rfl, by decide⟩
theorem fl_X7_37_4 : zF RX7 37 4 6 (.array .boolean) true := ⟨RX4, TX4, 13, tyX4, rfl, inT4, by decide, TB_tab 111 (by decide +kernel) rfl, tyX4_ok, nmX4, rfl, rfl, rfl, by decide⟩
theorem fl_X11_113_4 : zF RX11 113 4 6 (.array .boolean) true := ⟨RX4, TX4, 13, tyX4, rfl, inT4, by decide, TB_tab 112 (by decide +kernel) rfl, tyX4_ok, nmX4, rfl, rfl, rfl, by decide⟩
theorem fl_X4_31_4 : zF RX4 31 4 7 (.array .int) true := ⟨RX4, TX4, 13, tyX4, rfl, inT4, by decide, TB_tab 113 (by decide +kernel) rfl, tyX4_ok, nmX4, rfl, rfl, rfl, by decide⟩
theorem fl_X11_153_4 : zF RX11 153 4 7 (.array .int) true := ⟨RX4, TX4, 13, tyX4, rfl, inT4, by decide, TB_tab 114 (by decide +kernel) rfl, tyX4_ok, nmX4, rfl, rfl, rfl, by decide⟩
theorem fl_X4_34_4 : zF RX4 34 4 8 (.array .int) true := ⟨RX4, TX4, 13, tyX4, rfl, inT4, by decide, TB_tab 115 (by decide +kernel) rfl, tyX4_ok, nmX4, rfl, rfl, rfl, by decide⟩
theorem fl_X11_163_4 : zF RX11 163 4 8 (.array .int) true := ⟨RX4, TX4, 13, tyX4, rfl, inT4, by decide, TB_tab 116 (by decide +kernel) rfl, tyX4_ok, nmX4, rfl, rfl, rfl, by decide⟩
theorem fl_X4_37_4 : zF RX4 37 4 9 .int false := ⟨RX4, TX4, 13, tyX4, rfl, inT4, by decide, TB_tab 117 (by decide +kernel) rfl, tyX4_ok, nmX4, rfl, rfl, rfl, by decide⟩
theorem fl_X11_156_4 : zF RX11 156 4 9 .int false := ⟨RX4, TX4, 13, tyX4, rfl, inT4, by decide, TB_tab 118 (by decide +kernel) rfl, tyX4_ok, nmX4, rfl, rfl, rfl, by decide⟩
theorem fl_X4_41_4 : zF RX4 41 4 10 (.array .int) true := ⟨RX4, TX4, 13, tyX4, rfl, inT4, by decide, TB_tab 119 (by decide +kernel) rfl, tyX4_ok, nmX4, rfl, rfl, rfl, by decide⟩
theorem fl_X4_44_4 : zF RX4 44 4 11 (.array .int) true := ⟨RX4, TX4, 13, tyX4, rfl, inT4, by decide, TB_tab 120 (by decide +kernel) rfl, tyX4_ok, nmX4, rfl, rfl, rfl, by decide⟩
theorem fl_X4_47_4 : zF RX4 47 4 12 .int false := ⟨RX4, TX4, 13, tyX4, rfl, inT4, by decide, TB_tab 121 (by decide +kernel) rfl, tyX4_ok, nmX4, rfl, rfl, rfl, by decide⟩
theorem fl_X11_249_4 : zF RX11 249 4 12 .int false := ⟨RX4, TX4, 13, tyX4, rfl, inT4, by decide, TB_tab 122 (by decide +kernel) rfl, tyX4_ok, nmX4, rfl, rfl, rfl, by decide⟩
theorem fl_X6_9_6 : zF RX6 9 6 0 (.array .int) true := ⟨RX6, TX6, 4, tyX6, rfl, inT6, by decide, TB_tab 157 (by decide +kernel) rfl, tyX6_ok, nmX6, rfl, rfl, rfl, by decide⟩
theorem fl_X6_15_6 : zF RX6 15 6 1 (.array .int) true := ⟨RX6, TX6, 4, tyX6, rfl, inT6, by decide, TB_tab 158 (by decide +kernel) rfl, tyX6_ok, nmX6, rfl, rfl, rfl, by decide⟩
theorem fl_X6_18_6 : zF RX6 18 6 2 .int false := ⟨RX6, TX6, 4, tyX6, rfl, inT6, by decide, TB_tab 159 (by decide +kernel) rfl, tyX6_ok, nmX6, rfl, rfl, rfl, by decide⟩
theorem fl_X11_222_6 : zF RX11 222 6 2 .int false := ⟨RX6, TX6, 4, tyX6, rfl, inT6, by decide, TB_tab 160 (by decide +kernel) rfl, tyX6_ok, nmX6, rfl, rfl, rfl, by decide⟩
theorem fl_X6_22_6 : zF RX6 22 6 3 .int false := ⟨RX6, TX6, 4, tyX6, rfl, inT6, by decide, TB_tab 161 (by decide +kernel) rfl, tyX6_ok, nmX6, rfl, rfl, rfl, by decide⟩
theorem fl_X11_225_6 : zF RX11 225 6 3 .int false := ⟨RX6, TX6, 4, tyX6, rfl, inT6, by decide, TB_tab 162 (by decide +kernel) rfl, tyX6_ok, nmX6, rfl, rfl, rfl, by decide⟩
theorem fl_X7_9_7 : zF RX7 9 7 0 (.array .long) true := ⟨RX7, TX7, 2, tyX7, rfl, inT7, by decide, TB_tab 178 (by decide +kernel) rfl, tyX7_ok, nmX7, rfl, rfl, rfl, by decide⟩
theorem fl_X7_15_7 : zF RX7 15 7 1 .long false := ⟨RX7, TX7, 2, tyX7, rfl, inT7, by decide, TB_tab 179 (by decide +kernel) rfl, tyX7_ok, nmX7, rfl, rfl, rfl, by decide⟩
theorem fl_X1_7_1 : zF RX1 7 1 0 .int false := ⟨RX1, TX1, 1, tyX1, rfl, inT1, by decide, TB_tab 192 (by decide +kernel) rfl, tyX1_ok, nmX1, rfl, rfl, rfl, by decide⟩
theorem fl_X11_255_1 : zF RX11 255 1 0 .int false := ⟨RX1, TX1, 1, tyX1, rfl, inT1, by decide, TB_tab 193 (by decide +kernel) rfl, tyX1_ok, nmX1, rfl, rfl, rfl, by decide⟩
theorem fl_X11_10_11 : zF RX11 10 11 0 (.object "ClosedFeuds$Page") true := ⟨RX11, TX11, 10, tyX11, rfl, inT11, by decide, TB_tab 197 (by decide +kernel) rfl, tyX11_ok, nmX11, rfl, rfl, rfl, by decide⟩
theorem fl_X11_19_11 : zF RX11 19 11 1 (.object "ClosedFeuds$TheList") true := ⟨RX11, TX11, 10, tyX11, rfl, inT11, by decide, TB_tab 198 (by decide +kernel) rfl, tyX11_ok, nmX11, rfl, rfl, rfl, by decide⟩
theorem fl_X11_28_11 : zF RX11 28 11 2 (.object "ClosedFeuds$Isle") true := ⟨RX11, TX11, 10, tyX11, rfl, inT11, by decide, TB_tab 199 (by decide +kernel) rfl, tyX11_ok, nmX11, rfl, rfl, rfl, by decide⟩
theorem fl_X11_32_11 : zF RX11 32 11 3 (.object "ClosedFeuds$Isle") true := ⟨RX11, TX11, 10, tyX11, rfl, inT11, by decide, TB_tab 200 (by decide +kernel) rfl, tyX11_ok, nmX11, rfl, rfl, rfl, by decide⟩
theorem fl_X11_35_11 : zF RX11 35 11 4 (.object "ClosedFeuds$Isle") true := ⟨RX11, TX11, 10, tyX11, rfl, inT11, by decide, TB_tab 201 (by decide +kernel) rfl, tyX11_ok, nmX11, rfl, rfl, rfl, by decide⟩
theorem fl_X11_41_11 : zF RX11 41 11 5 (.object "ClosedFeuds$Matchmaker") true := ⟨RX11, TX11, 10, tyX11, rfl, inT11, by decide, TB_tab 202 (by decide +kernel) rfl, tyX11_ok, nmX11, rfl, rfl, rfl, by decide⟩
theorem fl_X11_48_11 : zF RX11 48 11 6 (.object "ClosedFeuds$Odds") true := ⟨RX11, TX11, 10, tyX11, rfl, inT11, by decide, TB_tab 203 (by decide +kernel) rfl, tyX11_ok, nmX11, rfl, rfl, rfl, by decide⟩
theorem fl_X11_55_11 : zF RX11 55 11 7 (.object "ClosedFeuds$Draws") true := ⟨RX11, TX11, 10, tyX11, rfl, inT11, by decide, TB_tab 204 (by decide +kernel) rfl, tyX11_ok, nmX11, rfl, rfl, rfl, by decide⟩
theorem fl_X11_59_11 : zF RX11 59 11 8 .boolean false := ⟨RX11, TX11, 10, tyX11, rfl, inT11, by decide, TB_tab 205 (by decide +kernel) rfl, tyX11_ok, nmX11, rfl, rfl, rfl, by decide⟩
theorem fl_X11_63_11 : zF RX11 63 11 9 .int false := ⟨RX11, TX11, 10, tyX11, rfl, inT11, by decide, TB_tab 206 (by decide +kernel) rfl, tyX11_ok, nmX11, rfl, rfl, rfl, by decide⟩
theorem fl_X12_7_12 : zF RX12 7 12 0 (.array .int) true := ⟨RX12, TX12, 26, tyX12, rfl, inT12, by decide, TB_tab 745 (by decide +kernel) rfl, tyX12_ok, nmX12, rfl, rfl, rfl, by decide⟩
theorem fl_X12_66_12 : zF RX12 66 12 1 .int false := ⟨RX12, TX12, 26, tyX12, rfl, inT12, by decide, TB_tab 746 (by decide +kernel) rfl, tyX12_ok, nmX12, rfl, rfl, rfl, by decide⟩
theorem fl_X12_13_12 : zF RX12 13 12 2 (.array .int) true := ⟨RX12, TX12, 26, tyX12, rfl, inT12, by decide, TB_tab 747 (by decide +kernel) rfl, tyX12_ok, nmX12, rfl, rfl, rfl, by decide⟩
theorem fl_X12_69_12 : zF RX12 69 12 3 .int false := ⟨RX12, TX12, 26, tyX12, rfl, inT12, by decide, TB_tab 748 (by decide +kernel) rfl, tyX12_ok, nmX12, rfl, rfl, rfl, by decide⟩
theorem fl_X12_72_12 : zF RX12 72 12 4 .int false := ⟨RX12, TX12, 26, tyX12, rfl, inT12, by decide, TB_tab 749 (by decide +kernel) rfl, tyX12_ok, nmX12, rfl, rfl, rfl, by decide⟩
theorem fl_X12_91_12 : zF RX12 91 12 5 .int false := ⟨RX12, TX12, 26, tyX12, rfl, inT12, by decide, TB_tab 750 (by decide +kernel) rfl, tyX12_ok, nmX12, rfl, rfl, rfl, by decide⟩
theorem fl_X12_100_12 : zF RX12 100 12 6 .int false := ⟨RX12, TX12, 26, tyX12, rfl, inT12, by decide, TB_tab 751 (by decide +kernel) rfl, tyX12_ok, nmX12, rfl, rfl, rfl, by decide⟩
theorem fl_X12_16_12 : zF RX12 16 12 7 (.array .int) true := ⟨RX12, TX12, 26, tyX12, rfl, inT12, by decide, TB_tab 752 (by decide +kernel) rfl, tyX12_ok, nmX12, rfl, rfl, rfl, by decide⟩
theorem fl_X12_19_12 : zF RX12 19 12 8 (.array .int) true := ⟨RX12, TX12, 26, tyX12, rfl, inT12, by decide, TB_tab 753 (by decide +kernel) rfl, tyX12_ok, nmX12, rfl, rfl, rfl, by decide⟩
theorem fl_X12_94_12 : zF RX12 94 12 9 .int false := ⟨RX12, TX12, 26, tyX12, rfl, inT12, by decide, TB_tab 754 (by decide +kernel) rfl, tyX12_ok, nmX12, rfl, rfl, rfl, by decide⟩
theorem fl_X12_22_12 : zF RX12 22 12 10 (.array .int) true := ⟨RX12, TX12, 26, tyX12, rfl, inT12, by decide, TB_tab 755 (by decide +kernel) rfl, tyX12_ok, nmX12, rfl, rfl, rfl, by decide⟩
theorem fl_X12_25_12 : zF RX12 25 12 11 (.array .int) true := ⟨RX12, TX12, 26, tyX12, rfl, inT12, by decide, TB_tab 756 (by decide +kernel) rfl, tyX12_ok, nmX12, rfl, rfl, rfl, by decide⟩
theorem fl_X12_28_12 : zF RX12 28 12 12 (.array .int) true := ⟨RX12, TX12, 26, tyX12, rfl, inT12, by decide, TB_tab 757 (by decide +kernel) rfl, tyX12_ok, nmX12, rfl, rfl, rfl, by decide⟩
theorem fl_X12_31_12 : zF RX12 31 12 13 (.array .int) true := ⟨RX12, TX12, 26, tyX12, rfl, inT12, by decide, TB_tab 758 (by decide +kernel) rfl, tyX12_ok, nmX12, rfl, rfl, rfl, by decide⟩
theorem fl_X12_34_12 : zF RX12 34 12 14 (.array .long) true := ⟨RX12, TX12, 26, tyX12, rfl, inT12, by decide, TB_tab 759 (by decide +kernel) rfl, tyX12_ok, nmX12, rfl, rfl, rfl, by decide⟩
theorem fl_X12_97_12 : zF RX12 97 12 15 .int false := ⟨RX12, TX12, 26, tyX12, rfl, inT12, by decide, TB_tab 760 (by decide +kernel) rfl, tyX12_ok, nmX12, rfl, rfl, rfl, by decide⟩
theorem fl_X12_38_12 : zF RX12 38 12 16 (.array .int) true := ⟨RX12, TX12, 26, tyX12, rfl, inT12, by decide, TB_tab 761 (by decide +kernel) rfl, tyX12_ok, nmX12, rfl, rfl, rfl, by decide⟩
theorem fl_X12_230_12 : zF RX12 230 12 17 .int false := ⟨RX12, TX12, 26, tyX12, rfl, inT12, by decide, TB_tab 762 (by decide +kernel) rfl, tyX12_ok, nmX12, rfl, rfl, rfl, by decide⟩
theorem fl_X12_53_12 : zF RX12 53 12 18 .int false := ⟨RX12, TX12, 26, tyX12, rfl, inT12, by decide, TB_tab 763 (by decide +kernel) rfl, tyX12_ok, nmX12, rfl, rfl, rfl, by decide⟩
theorem fl_X12_251_12 : zF RX12 251 12 19 .int false := ⟨RX12, TX12, 26, tyX12, rfl, inT12, by decide, TB_tab 764 (by decide +kernel) rfl, tyX12_ok, nmX12, rfl, rfl, rfl, by decide⟩
theorem fl_X12_254_12 : zF RX12 254 12 20 .int false := ⟨RX12, TX12, 26, tyX12, rfl, inT12, by decide, TB_tab 765 (by decide +kernel) rfl, tyX12_ok, nmX12, rfl, rfl, rfl, by decide⟩
theorem fl_X12_41_12 : zF RX12 41 12 21 (.array .int) true := ⟨RX12, TX12, 26, tyX12, rfl, inT12, by decide, TB_tab 766 (by decide +kernel) rfl, tyX12_ok, nmX12, rfl, rfl, rfl, by decide⟩
theorem fl_X12_44_12 : zF RX12 44 12 22 (.array .int) true := ⟨RX12, TX12, 26, tyX12, rfl, inT12, by decide, TB_tab 767 (by decide +kernel) rfl, tyX12_ok, nmX12, rfl, rfl, rfl, by decide⟩
theorem fl_X12_47_12 : zF RX12 47 12 23 (.array .int) true := ⟨RX12, TX12, 26, tyX12, rfl, inT12, by decide, TB_tab 768 (by decide +kernel) rfl, tyX12_ok, nmX12, rfl, rfl, rfl, by decide⟩
theorem fl_X12_50_12 : zF RX12 50 12 24 (.array .int) true := ⟨RX12, TX12, 26, tyX12, rfl, inT12, by decide, TB_tab 769 (by decide +kernel) rfl, tyX12_ok, nmX12, rfl, rfl, rfl, by decide⟩
theorem fl_X12_265_12 : zF RX12 265 12 25 .long false := ⟨RX12, TX12, 26, tyX12, rfl, inT12, by decide, TB_tab 770 (by decide +kernel) rfl, tyX12_ok, nmX12, rfl, rfl, rfl, by decide⟩
theorem ml_X0_3 : Cond.methodLink RX0 3 yX2_init ∈ TB := TB_tab 289 (by decide +kernel) rfl
theorem ml_X1_1 : Cond.methodLink RX1 1 Lib.objectInit ∈ TB := TB_tab 191 (by decide +kernel) rfl
theorem ml_X2_3 : Cond.methodLink RX2 3 Lib.objectInit ∈ TB := TB_tab 61 (by decide +kernel) rfl
theorem ml_X3_3 : Cond.methodLink RX3 3 yX2_init ∈ TB := TB_tab 305 (by decide +kernel) rfl
theorem ml_X4_103 : Cond.methodLink RX4 103 Lib.Math.min.name ∈ TB := TB_tab 449 (by decide +kernel) rfl
theorem ml_X4_108 : Cond.methodLink RX4 108 yX4_onSide ∈ TB := TB_tab 400 (by decide +kernel) rfl
theorem ml_X4_111 : Cond.methodLink RX4 111 yX4_canBuy ∈ TB := TB_tab 571 (by decide +kernel) rfl
theorem ml_X4_114 : Cond.methodLink RX4 114 yX4_sellTo ∈ TB := TB_tab 572 (by decide +kernel) rfl
theorem ml_X4_118 : Cond.methodLink RX4 118 yX2_isLendable ∈ TB := TB_tab 460 (by decide +kernel) rfl
theorem ml_X4_122 : Cond.methodLink RX4 122 yX2_mostOpenAtPeace ∈ TB := TB_tab 481 (by decide +kernel) rfl
theorem ml_X4_125 : Cond.methodLink RX4 125 yX4_endLoansOf ∈ TB := TB_tab 508 (by decide +kernel) rfl
theorem ml_X4_129 : Cond.methodLink RX4 129 yX4_inheritorOf ∈ TB := TB_tab 512 (by decide +kernel) rfl
theorem ml_X4_133 : Cond.methodLink RX4 133 yX4_areOnBothSides ∈ TB := TB_tab 527 (by decide +kernel) rfl
theorem ml_X4_139 : Cond.methodLink RX4 139 yX4_feudsShared ∈ TB := TB_tab 665 (by decide +kernel) rfl
theorem ml_X4_142 : Cond.methodLink RX4 142 yX4_lentSides ∈ TB := TB_tab 547 (by decide +kernel) rfl
theorem ml_X4_3 : Cond.methodLink RX4 3 Lib.objectInit ∈ TB := TB_tab 93 (by decide +kernel) rfl
theorem ml_X4_54 : Cond.methodLink RX4 54 yX4_begin ∈ TB := TB_tab 94 (by decide +kernel) rfl
theorem ml_X4_65 : Cond.methodLink RX4 65 arraycopyName ∈ TB := TB_tab 564 (by decide +kernel) rfl
theorem ml_X4_71 : Cond.methodLink RX4 71 yX4_hasToDoWithSide ∈ TB := TB_tab 437 (by decide +kernel) rfl
theorem ml_X4_79 : Cond.methodLink RX4 79 yX2_fullPrice ∈ TB := TB_tab 358 (by decide +kernel) rfl
theorem ml_X4_85 : Cond.methodLink RX4 85 yX4_isOpen ∈ TB := TB_tab 374 (by decide +kernel) rfl
theorem ml_X4_89 : Cond.methodLink RX4 89 yX4_priceOf ∈ TB := TB_tab 354 (by decide +kernel) rfl
theorem ml_X4_93 : Cond.methodLink RX4 93 yX4_isLent ∈ TB := TB_tab 429 (by decide +kernel) rfl
theorem ml_X4_96 : Cond.methodLink RX4 96 yX4_hasToDo ∈ TB := TB_tab 433 (by decide +kernel) rfl
theorem ml_X4_99 : Cond.methodLink RX4 99 yX4_pay ∈ TB := TB_tab 445 (by decide +kernel) rfl
theorem ml_X5_3 : Cond.methodLink RX5 3 yX2_init ∈ TB := TB_tab 297 (by decide +kernel) rfl
theorem ml_X6_25 : Cond.methodLink RX6 25 yX6_reckonGains ∈ TB := TB_tab 585 (by decide +kernel) rfl
theorem ml_X6_29 : Cond.methodLink RX6 29 yX6_bestOf ∈ TB := TB_tab 593 (by decide +kernel) rfl
theorem ml_X6_3 : Cond.methodLink RX6 3 Lib.objectInit ∈ TB := TB_tab 156 (by decide +kernel) rfl
theorem ml_X6_39 : Cond.methodLink RX6 39 yX4_feudsShared ∈ TB := TB_tab 589 (by decide +kernel) rfl
theorem ml_X6_43 : Cond.methodLink RX6 43 yX6_leastOf ∈ TB := TB_tab 597 (by decide +kernel) rfl
theorem ml_X6_46 : Cond.methodLink RX6 46 Lib.Math.max.name ∈ TB := TB_tab 600 (by decide +kernel) rfl
theorem ml_X7_19 : Cond.methodLink RX7 19 yJ7_fill_d0a16 ∈ TB := TB_tab 617 (by decide +kernel) rfl
theorem ml_X7_3 : Cond.methodLink RX7 3 Lib.objectInit ∈ TB := TB_tab 177 (by decide +kernel) rfl
theorem ml_X7_54 : Cond.methodLink RX7 54 yX7_addFeud ∈ TB := TB_tab 622 (by decide +kernel) rfl
theorem ml_X7_58 : Cond.methodLink RX7 58 yX7_waysOf ∈ TB := TB_tab 630 (by decide +kernel) rfl
theorem ml_X7_62 : Cond.methodLink RX7 62 yX7_inLowest ∈ TB := TB_tab 634 (by decide +kernel) rfl
theorem ml_X7_66 : Cond.methodLink RX7 66 yX7_commonDivisor ∈ TB := TB_tab 638 (by decide +kernel) rfl
theorem ml_X8_25 : Cond.methodLink RX8 25 yX8_scan ∈ TB := TB_tab 274 (by decide +kernel) rfl
theorem ml_X8_28 : Cond.methodLink RX8 28 yX8_stageBehind ∈ TB := TB_tab 252 (by decide +kernel) rfl
theorem ml_X8_3 : Cond.methodLink RX8 3 Lib.objectInit ∈ TB := TB_tab 31 (by decide +kernel) rfl
theorem ml_X8_32 : Cond.methodLink RX8 32 yX8_codeAt ∈ TB := TB_tab 256 (by decide +kernel) rfl
theorem ml_X8_36 : Cond.methodLink RX8 36 yX10_kindOfLetter ∈ TB := TB_tab 260 (by decide +kernel) rfl
theorem ml_X8_41 : Cond.methodLink RX8 41 yX8_namesPerson ∈ TB := TB_tab 263 (by decide +kernel) rfl
theorem ml_X9_3 : Cond.methodLink RX9 3 yX3_init ∈ TB := TB_tab 313 (by decide +kernel) rfl
theorem ml_X9_9 : Cond.methodLink RX9 9 yX3_fullPrice ∈ TB := TB_tab 372 (by decide +kernel) rfl
theorem ml_X10_25 : Cond.methodLink RX10 25 yX2_init ∈ TB := TB_tab 58 (by decide +kernel) rfl
theorem ml_X10_3 : Cond.methodLink RX10 3 Lib.objectInit ∈ TB := TB_tab 54 (by decide +kernel) rfl
theorem ml_X10_33 : Cond.methodLink RX10 33 yX8_codeAt ∈ TB := TB_tab 279 (by decide +kernel) rfl
theorem ml_X10_37 : Cond.methodLink RX10 37 yX10_kindOfLetter ∈ TB := TB_tab 280 (by decide +kernel) rfl
theorem ml_X10_40 : Cond.methodLink RX10 40 yX10_feudOf ∈ TB := TB_tab 281 (by decide +kernel) rfl
theorem ml_X10_46 : Cond.methodLink RX10 46 yX0_init ∈ TB := TB_tab 286 (by decide +kernel) rfl
theorem ml_X10_49 : Cond.methodLink RX10 49 yX5_init ∈ TB := TB_tab 294 (by decide +kernel) rfl
theorem ml_X10_52 : Cond.methodLink RX10 52 yX3_init ∈ TB := TB_tab 302 (by decide +kernel) rfl
theorem ml_X10_55 : Cond.methodLink RX10 55 yX9_init ∈ TB := TB_tab 310 (by decide +kernel) rfl
theorem ml_X11_1 : Cond.methodLink RX11 1 Lib.objectInit ∈ TB := TB_tab 23 (by decide +kernel) rfl
theorem ml_X11_105 : Cond.methodLink RX11 105 yX2_kind ∈ TB := TB_tab 325 (by decide +kernel) rfl
theorem ml_X11_117 : Cond.methodLink RX11 117 yX4_onSide ∈ TB := TB_tab 342 (by decide +kernel) rfl
theorem ml_X11_121 : Cond.methodLink RX11 121 yX4_lenderOf ∈ TB := TB_tab 346 (by decide +kernel) rfl
theorem ml_X11_124 : Cond.methodLink RX11 124 yX4_toldPrice ∈ TB := TB_tab 350 (by decide +kernel) rfl
theorem ml_X11_127 : Cond.methodLink RX11 127 yX11_isOfKind ∈ TB := TB_tab 382 (by decide +kernel) rfl
theorem ml_X11_131 : Cond.methodLink RX11 131 yX11_isPerson ∈ TB := TB_tab 393 (by decide +kernel) rfl
theorem ml_X11_144 : Cond.methodLink RX11 144 yX4_sidesOf ∈ TB := TB_tab 396 (by decide +kernel) rfl
theorem ml_X11_148 : Cond.methodLink RX11 148 yJ6_bitCount_0f7a4 ∈ TB := TB_tab 401 (by decide +kernel) rfl
theorem ml_X11_159 : Cond.methodLink RX11 159 yX11_times ∈ TB := TB_tab 407 (by decide +kernel) rfl
theorem ml_X11_166 : Cond.methodLink RX11 166 yX11_hasList ∈ TB := TB_tab 414 (by decide +kernel) rfl
theorem ml_X11_169 : Cond.methodLink RX11 169 yX11_isBit ∈ TB := TB_tab 422 (by decide +kernel) rfl
theorem ml_X11_172 : Cond.methodLink RX11 172 yX4_canBuy ∈ TB := TB_tab 425 (by decide +kernel) rfl
theorem ml_X11_176 : Cond.methodLink RX11 176 yX4_sellTo ∈ TB := TB_tab 441 (by decide +kernel) rfl
theorem ml_X11_18 : Cond.methodLink RX11 18 yX10_init ∈ TB := TB_tab 51 (by decide +kernel) rfl
theorem ml_X11_180 : Cond.methodLink RX11 180 yX4_canLend ∈ TB := TB_tab 456 (by decide +kernel) rfl
theorem ml_X11_186 : Cond.methodLink RX11 186 yX4_canStrike ∈ TB := TB_tab 477 (by decide +kernel) rfl
theorem ml_X11_189 : Cond.methodLink RX11 189 yX4_strike ∈ TB := TB_tab 492 (by decide +kernel) rfl
theorem ml_X11_193 : Cond.methodLink RX11 193 yX4_struckFeuds ∈ TB := TB_tab 496 (by decide +kernel) rfl
theorem ml_X11_196 : Cond.methodLink RX11 196 yX4_die ∈ TB := TB_tab 504 (by decide +kernel) rfl
theorem ml_X11_199 : Cond.methodLink RX11 199 yX11_areTwo ∈ TB := TB_tab 520 (by decide +kernel) rfl
theorem ml_X11_203 : Cond.methodLink RX11 203 yX4_feudBetween ∈ TB := TB_tab 523 (by decide +kernel) rfl
theorem ml_X11_206 : Cond.methodLink RX11 206 yX4_keepHarm ∈ TB := TB_tab 535 (by decide +kernel) rfl
theorem ml_X11_209 : Cond.methodLink RX11 209 yX4_endSeason ∈ TB := TB_tab 543 (by decide +kernel) rfl
theorem ml_X11_212 : Cond.methodLink RX11 212 yX11_costOfFeud ∈ TB := TB_tab 556 (by decide +kernel) rfl
theorem ml_X11_215 : Cond.methodLink RX11 215 yX11_cheaper ∈ TB := TB_tab 573 (by decide +kernel) rfl
theorem ml_X11_218 : Cond.methodLink RX11 218 yX6_pairUp ∈ TB := TB_tab 581 (by decide +kernel) rfl
theorem ml_X11_228 : Cond.methodLink RX11 228 yX4_copyFrom ∈ TB := TB_tab 560 (by decide +kernel) rfl
theorem ml_X11_235 : Cond.methodLink RX11 235 yX7_reckon ∈ TB := TB_tab 613 (by decide +kernel) rfl
theorem ml_X11_239 : Cond.methodLink RX11 239 yX7_above ∈ TB := TB_tab 626 (by decide +kernel) rfl
theorem ml_X11_243 : Cond.methodLink RX11 243 yX7_below ∈ TB := TB_tab 641 (by decide +kernel) rfl
theorem ml_X11_246 : Cond.methodLink RX11 246 yX4_keepRegister ∈ TB := TB_tab 649 (by decide +kernel) rfl
theorem ml_X11_25 : Cond.methodLink RX11 25 yX4_init ∈ TB := TB_tab 90 (by decide +kernel) rfl
theorem ml_X11_252 : Cond.methodLink RX11 252 yX4_registersFit ∈ TB := TB_tab 661 (by decide +kernel) rfl
theorem ml_X11_258 : Cond.methodLink RX11 258 yX11_liveYear ∈ TB := TB_tab 670 (by decide +kernel) rfl
theorem ml_X11_261 : Cond.methodLink RX11 261 yX4_peopleAlive ∈ TB := TB_tab 682 (by decide +kernel) rfl
theorem ml_X11_264 : Cond.methodLink RX11 264 yX4_moneyOfAll ∈ TB := TB_tab 686 (by decide +kernel) rfl
theorem ml_X11_267 : Cond.methodLink RX11 267 yX4_openSides ∈ TB := TB_tab 690 (by decide +kernel) rfl
theorem ml_X11_270 : Cond.methodLink RX11 270 yX4_lentSides ∈ TB := TB_tab 706 (by decide +kernel) rfl
theorem ml_X11_275 : Cond.methodLink RX11 275 yX11_foldFeuds ∈ TB := TB_tab 712 (by decide +kernel) rfl
theorem ml_X11_279 : Cond.methodLink RX11 279 yX11_foldPeople ∈ TB := TB_tab 721 (by decide +kernel) rfl
theorem ml_X11_282 : Cond.methodLink RX11 282 yX11_foldHarming ∈ TB := TB_tab 726 (by decide +kernel) rfl
theorem ml_X11_285 : Cond.methodLink RX11 285 yX11_marry ∈ TB := TB_tab 731 (by decide +kernel) rfl
theorem ml_X11_288 : Cond.methodLink RX11 288 yX11_fold ∈ TB := TB_tab 717 (by decide +kernel) rfl
theorem ml_X11_292 : Cond.methodLink RX11 292 yX11_lapsed ∈ TB := TB_tab 732 (by decide +kernel) rfl
theorem ml_X11_295 : Cond.methodLink RX11 295 yX8_codeAt ∈ TB := TB_tab 733 (by decide +kernel) rfl
theorem ml_X11_298 : Cond.methodLink RX11 298 yX11_count ∈ TB := TB_tab 734 (by decide +kernel) rfl
theorem ml_X11_303 : Cond.methodLink RX11 303 yX11_about ∈ TB := TB_tab 716 (by decide +kernel) rfl
theorem ml_X11_306 : Cond.methodLink RX11 306 yX11_person ∈ TB := TB_tab 725 (by decide +kernel) rfl
theorem ml_X11_309 : Cond.methodLink RX11 309 yX11_mayHarm ∈ TB := TB_tab 730 (by decide +kernel) rfl
theorem ml_X11_320 : Cond.methodLink RX11 320 Lib.Math.min.name ∈ TB := TB_tab 576 (by decide +kernel) rfl
theorem ml_X11_325 : Cond.methodLink RX11 325 yX4_getOn ∈ TB := TB_tab 567 (by decide +kernel) rfl
theorem ml_X11_328 : Cond.methodLink RX11 328 yX1_below ∈ TB := TB_tab 674 (by decide +kernel) rfl
theorem ml_X11_67 : Cond.methodLink RX11 67 yX8_write ∈ TB := TB_tab 232 (by decide +kernel) rfl
theorem ml_X11_74 : Cond.methodLink RX11 74 yX8_wipe ∈ TB := TB_tab 240 (by decide +kernel) rfl
theorem ml_X11_78 : Cond.methodLink RX11 78 yX8_scan ∈ TB := TB_tab 248 (by decide +kernel) rfl
theorem ml_X11_84 : Cond.methodLink RX11 84 yX8_isList ∈ TB := TB_tab 270 (by decide +kernel) rfl
theorem ml_X11_88 : Cond.methodLink RX11 88 yX10_readFrom ∈ TB := TB_tab 275 (by decide +kernel) rfl
theorem ml_X11_92 : Cond.methodLink RX11 92 yX4_begin ∈ TB := TB_tab 316 (by decide +kernel) rfl
theorem ml_X11_98 : Cond.methodLink RX11 98 yX11_isFeud ∈ TB := TB_tab 321 (by decide +kernel) rfl
theorem ml_L_101 : Cond.methodLink RL 101 yX12_forget ∈ TB := TB_tab 1052 (by decide +kernel) rfl
theorem ml_L_102 : Cond.methodLink RL 102 yX11_lapsed ∈ TB := TB_tab 657 (by decide +kernel) rfl
theorem ml_L_105 : Cond.methodLink RL 105 yX12_lapsed ∈ TB := TB_tab 1056 (by decide +kernel) rfl
theorem ml_L_106 : Cond.methodLink RL 106 yX11_years ∈ TB := TB_tab 666 (by decide +kernel) rfl
theorem ml_L_109 : Cond.methodLink RL 109 yX12_years ∈ TB := TB_tab 1068 (by decide +kernel) rfl
theorem ml_L_110 : Cond.methodLink RL 110 yX11_image ∈ TB := TB_tab 694 (by decide +kernel) rfl
theorem ml_L_113 : Cond.methodLink RL 113 yX12_image ∈ TB := TB_tab 1090 (by decide +kernel) rfl
theorem ml_L_114 : Cond.methodLink RL 114 yX11_restore ∈ TB := TB_tab 698 (by decide +kernel) rfl
theorem ml_L_117 : Cond.methodLink RL 117 yX12_restore ∈ TB := TB_tab 1094 (by decide +kernel) rfl
theorem ml_L_118 : Cond.methodLink RL 118 yX11_count ∈ TB := TB_tab 702 (by decide +kernel) rfl
theorem ml_L_12 : Cond.methodLink RL 12 yX12_init ∈ TB := TB_tab 737 (by decide +kernel) rfl
theorem ml_L_121 : Cond.methodLink RL 121 yX12_count ∈ TB := TB_tab 1098 (by decide +kernel) rfl
theorem ml_L_122 : Cond.methodLink RL 122 yX11_digest ∈ TB := TB_tab 707 (by decide +kernel) rfl
theorem ml_L_126 : Cond.methodLink RL 126 yX12_digest ∈ TB := TB_tab 1110 (by decide +kernel) rfl
theorem ml_L_13 : Cond.methodLink RL 13 yX11_letter ∈ TB := TB_tab 228 (by decide +kernel) rfl
theorem ml_L_17 : Cond.methodLink RL 17 yX12_letter ∈ TB := TB_tab 824 (by decide +kernel) rfl
theorem ml_L_18 : Cond.methodLink RL 18 yX11_blank ∈ TB := TB_tab 236 (by decide +kernel) rfl
theorem ml_L_22 : Cond.methodLink RL 22 yX12_blank ∈ TB := TB_tab 832 (by decide +kernel) rfl
theorem ml_L_23 : Cond.methodLink RL 23 yX11_fault ∈ TB := TB_tab 244 (by decide +kernel) rfl
theorem ml_L_26 : Cond.methodLink RL 26 yX12_fault ∈ TB := TB_tab 836 (by decide +kernel) rfl
theorem ml_L_27 : Cond.methodLink RL 27 yX11_list ∈ TB := TB_tab 266 (by decide +kernel) rfl
theorem ml_L_30 : Cond.methodLink RL 30 yX12_list ∈ TB := TB_tab 853 (by decide +kernel) rfl
theorem ml_L_31 : Cond.methodLink RL 31 yX11_about ∈ TB := TB_tab 317 (by decide +kernel) rfl
theorem ml_L_35 : Cond.methodLink RL 35 yX12_about ∈ TB := TB_tab 857 (by decide +kernel) rfl
theorem ml_L_36 : Cond.methodLink RL 36 yX11_as ∈ TB := TB_tab 378 (by decide +kernel) rfl
theorem ml_L_39 : Cond.methodLink RL 39 yX12_as ∈ TB := TB_tab 889 (by decide +kernel) rfl
theorem ml_L_40 : Cond.methodLink RL 40 yX11_person ∈ TB := TB_tab 389 (by decide +kernel) rfl
theorem ml_L_43 : Cond.methodLink RL 43 yX12_person ∈ TB := TB_tab 894 (by decide +kernel) rfl
theorem ml_L_44 : Cond.methodLink RL 44 yX11_heir ∈ TB := TB_tab 410 (by decide +kernel) rfl
theorem ml_L_47 : Cond.methodLink RL 47 yX12_heir ∈ TB := TB_tab 913 (by decide +kernel) rfl
theorem ml_L_48 : Cond.methodLink RL 48 yX11_buy ∈ TB := TB_tab 418 (by decide +kernel) rfl
theorem ml_L_52 : Cond.methodLink RL 52 yX12_buy ∈ TB := TB_tab 925 (by decide +kernel) rfl
theorem ml_L_53 : Cond.methodLink RL 53 yX11_lend ∈ TB := TB_tab 452 (by decide +kernel) rfl
theorem ml_L_56 : Cond.methodLink RL 56 yX12_lend ∈ TB := TB_tab 944 (by decide +kernel) rfl
theorem ml_L_57 : Cond.methodLink RL 57 yX11_peace ∈ TB := TB_tab 473 (by decide +kernel) rfl
theorem ml_L_60 : Cond.methodLink RL 60 yX12_peace ∈ TB := TB_tab 948 (by decide +kernel) rfl
theorem ml_L_61 : Cond.methodLink RL 61 yX11_death ∈ TB := TB_tab 500 (by decide +kernel) rfl
theorem ml_L_64 : Cond.methodLink RL 64 yX12_death ∈ TB := TB_tab 956 (by decide +kernel) rfl
theorem ml_L_65 : Cond.methodLink RL 65 yX11_mayHarm ∈ TB := TB_tab 516 (by decide +kernel) rfl
theorem ml_L_68 : Cond.methodLink RL 68 yX12_mayHarm ∈ TB := TB_tab 968 (by decide +kernel) rfl
theorem ml_L_69 : Cond.methodLink RL 69 yX11_harm ∈ TB := TB_tab 531 (by decide +kernel) rfl
theorem ml_L_72 : Cond.methodLink RL 72 yX12_harm ∈ TB := TB_tab 983 (by decide +kernel) rfl
theorem ml_L_73 : Cond.methodLink RL 73 yX11_season ∈ TB := TB_tab 539 (by decide +kernel) rfl
theorem ml_L_76 : Cond.methodLink RL 76 yX12_season ∈ TB := TB_tab 987 (by decide +kernel) rfl
theorem ml_L_77 : Cond.methodLink RL 77 yX11_comeBy ∈ TB := TB_tab 552 (by decide +kernel) rfl
theorem ml_L_80 : Cond.methodLink RL 80 yX12_comeBy ∈ TB := TB_tab 995 (by decide +kernel) rfl
theorem ml_L_81 : Cond.methodLink RL 81 yX11_marry ∈ TB := TB_tab 577 (by decide +kernel) rfl
theorem ml_L_84 : Cond.methodLink RL 84 yX12_marry ∈ TB := TB_tab 1018 (by decide +kernel) rfl
theorem ml_L_85 : Cond.methodLink RL 85 yX11_wills ∈ TB := TB_tab 603 (by decide +kernel) rfl
theorem ml_L_88 : Cond.methodLink RL 88 yX12_wills ∈ TB := TB_tab 1030 (by decide +kernel) rfl
theorem ml_L_89 : Cond.methodLink RL 89 yX11_left ∈ TB := TB_tab 607 (by decide +kernel) rfl
theorem ml_L_9 : Cond.methodLink RL 9 yX11_init ∈ TB := TB_tab 20 (by decide +kernel) rfl
theorem ml_L_93 : Cond.methodLink RL 93 yX12_left ∈ TB := TB_tab 1035 (by decide +kernel) rfl
theorem ml_L_94 : Cond.methodLink RL 94 yX11_register ∈ TB := TB_tab 645 (by decide +kernel) rfl
theorem ml_L_97 : Cond.methodLink RL 97 yX12_register ∈ TB := TB_tab 1048 (by decide +kernel) rfl
theorem ml_L_98 : Cond.methodLink RL 98 yX11_forget ∈ TB := TB_tab 653 (by decide +kernel) rfl
theorem ml_X12_1 : Cond.methodLink RX12 1 Lib.objectInit ∈ TB := TB_tab 740 (by decide +kernel) rfl
theorem ml_X12_103 : Cond.methodLink RX12 103 yX12_isPerson ∈ TB := TB_tab 898 (by decide +kernel) rfl
theorem ml_X12_106 : Cond.methodLink RX12 106 yX12_borrowerOf ∈ TB := TB_tab 873 (by decide +kernel) rfl
theorem ml_X12_110 : Cond.methodLink RX12 110 yX12_ownerOf ∈ TB := TB_tab 877 (by decide +kernel) rfl
theorem ml_X12_113 : Cond.methodLink RX12 113 yX12_isStruck ∈ TB := TB_tab 881 (by decide +kernel) rfl
theorem ml_X12_116 : Cond.methodLink RX12 116 yX12_onSide ∈ TB := TB_tab 869 (by decide +kernel) rfl
theorem ml_X12_119 : Cond.methodLink RX12 119 yX12_priceOf ∈ TB := TB_tab 885 (by decide +kernel) rfl
theorem ml_X12_122 : Cond.methodLink RX12 122 yX12_isFeud ∈ TB := TB_tab 861 (by decide +kernel) rfl
theorem ml_X12_125 : Cond.methodLink RX12 125 yX12_tell ∈ TB := TB_tab 865 (by decide +kernel) rfl
theorem ml_X12_130 : Cond.methodLink RX12 130 yX12_sidesOf ∈ TB := TB_tab 905 (by decide +kernel) rfl
theorem ml_X12_133 : Cond.methodLink RX12 133 yX12_harmsBy ∈ TB := TB_tab 909 (by decide +kernel) rfl
theorem ml_X12_136 : Cond.methodLink RX12 136 yX12_tellMan ∈ TB := TB_tab 901 (by decide +kernel) rfl
theorem ml_X12_139 : Cond.methodLink RX12 139 yX12_lacks ∈ TB := TB_tab 917 (by decide +kernel) rfl
theorem ml_X12_143 : Cond.methodLink RX12 143 yX12_isAlive ∈ TB := TB_tab 921 (by decide +kernel) rfl
theorem ml_X12_146 : Cond.methodLink RX12 146 yX12_hasToDo ∈ TB := TB_tab 933 (by decide +kernel) rfl
theorem ml_X12_150 : Cond.methodLink RX12 150 yX12_capped ∈ TB := TB_tab 941 (by decide +kernel) rfl
theorem ml_X12_153 : Cond.methodLink RX12 153 yX12_canBuy ∈ TB := TB_tab 929 (by decide +kernel) rfl
theorem ml_X12_157 : Cond.methodLink RX12 157 yX12_bought ∈ TB := TB_tab 937 (by decide +kernel) rfl
theorem ml_X12_161 : Cond.methodLink RX12 161 yX12_struckMany ∈ TB := TB_tab 952 (by decide +kernel) rfl
theorem ml_X12_164 : Cond.methodLink RX12 164 yX12_heirOf ∈ TB := TB_tab 964 (by decide +kernel) rfl
theorem ml_X12_167 : Cond.methodLink RX12 167 yX12_died ∈ TB := TB_tab 960 (by decide +kernel) rfl
theorem ml_X12_170 : Cond.methodLink RX12 170 yX12_areOn ∈ TB := TB_tab 979 (by decide +kernel) rfl
theorem ml_X12_173 : Cond.methodLink RX12 173 yX12_arePair ∈ TB := TB_tab 972 (by decide +kernel) rfl
theorem ml_X12_176 : Cond.methodLink RX12 176 yX12_harmOf ∈ TB := TB_tab 975 (by decide +kernel) rfl
theorem ml_X12_179 : Cond.methodLink RX12 179 yX12_ended ∈ TB := TB_tab 991 (by decide +kernel) rfl
theorem ml_X12_182 : Cond.methodLink RX12 182 yX12_copy ∈ TB := TB_tab 1003 (by decide +kernel) rfl
theorem ml_X12_186 : Cond.methodLink RX12 186 yX12_getsOn ∈ TB := TB_tab 1010 (by decide +kernel) rfl
theorem ml_X12_189 : Cond.methodLink RX12 189 yX12_layBack ∈ TB := TB_tab 1014 (by decide +kernel) rfl
theorem ml_X12_192 : Cond.methodLink RX12 192 yX12_save ∈ TB := TB_tab 999 (by decide +kernel) rfl
theorem ml_X12_195 : Cond.methodLink RX12 195 yX12_bothOn ∈ TB := TB_tab 1006 (by decide +kernel) rfl
theorem ml_X12_198 : Cond.methodLink RX12 198 yX12_feudsOf ∈ TB := TB_tab 1026 (by decide +kernel) rfl
theorem ml_X12_201 : Cond.methodLink RX12 201 yX12_marryOf ∈ TB := TB_tab 1022 (by decide +kernel) rfl
theorem ml_X12_218 : Cond.methodLink RX12 218 yX12_term ∈ TB := TB_tab 1045 (by decide +kernel) rfl
theorem ml_X12_222 : Cond.methodLink RX12 222 yX12_isLapsedBy ∈ TB := TB_tab 1064 (by decide +kernel) rfl
theorem ml_X12_225 : Cond.methodLink RX12 225 yX12_lapsedOf ∈ TB := TB_tab 1060 (by decide +kernel) rfl
theorem ml_X12_242 : Cond.methodLink RX12 242 yX12_draw ∈ TB := TB_tab 1074 (by decide +kernel) rfl
theorem ml_X12_245 : Cond.methodLink RX12 245 yX12_aliveMany ∈ TB := TB_tab 1082 (by decide +kernel) rfl
theorem ml_X12_248 : Cond.methodLink RX12 248 yX12_openMany ∈ TB := TB_tab 1086 (by decide +kernel) rfl
theorem ml_X12_257 : Cond.methodLink RX12 257 yX12_lentMany ∈ TB := TB_tab 1106 (by decide +kernel) rfl
theorem ml_X12_260 : Cond.methodLink RX12 260 yX12_countOf ∈ TB := TB_tab 1102 (by decide +kernel) rfl
theorem ml_X12_271 : Cond.methodLink RX12 271 yX12_say ∈ TB := TB_tab 1115 (by decide +kernel) rfl
theorem ml_X12_57 : Cond.methodLink RX12 57 yX12_peopleAsAtFirst ∈ TB := TB_tab 741 (by decide +kernel) rfl
theorem ml_X12_62 : Cond.methodLink RX12 62 yX12_in ∈ TB := TB_tab 829 (by decide +kernel) rfl
theorem ml_X12_79 : Cond.methodLink RX12 79 yX12_kindBy ∈ TB := TB_tab 850 (by decide +kernel) rfl
theorem ml_X12_83 : Cond.methodLink RX12 83 yX12_go ∈ TB := TB_tab 844 (by decide +kernel) rfl
theorem ml_X12_87 : Cond.methodLink RX12 87 yX12_faultOf ∈ TB := TB_tab 840 (by decide +kernel) rfl
theorem im_X0_init : Cond.instanceMethod yX0_init ∈ TB := TB_tab 287 (by decide +kernel) rfl
theorem co_X0_init : Cond.code yX0_init cX0_init 2 none ∈ TB := TB_tab 288 (by decide +kernel) rfl
theorem im_X0_kind : Cond.instanceMethod yX0_kind ∈ TB := TB_tab 330 (by decide +kernel) rfl
theorem co_X0_kind : Cond.code yX0_kind cX0_kind 1 (some .int) ∈ TB := TB_tab 331 (by decide +kernel) rfl
theorem im_X0_isLendable : Cond.instanceMethod yX0_isLendable ∈ TB := TB_tab 465 (by decide +kernel) rfl
theorem co_X0_isLendable : Cond.code yX0_isLendable cX0_isLendable 1 (some .boolean) ∈ TB := TB_tab 466 (by decide +kernel) rfl
theorem im_X1_init : Cond.instanceMethod yX1_init ∈ TB := TB_tab 189 (by decide +kernel) rfl
theorem co_X1_init : Cond.code yX1_init cX1_init 1 none ∈ TB := TB_tab 190 (by decide +kernel) rfl
theorem im_X1_below : Cond.instanceMethod yX1_below ∈ TB := TB_tab 675 (by decide +kernel) rfl
theorem se_X1_below : Cond.selects RX1 yX1_below yX1_below ∈ TB := TB_tab 676 (by decide +kernel) rfl
theorem co_X1_below : Cond.code yX1_below cX1_below 2 (some .int) ∈ TB := TB_tab 677 (by decide +kernel) rfl
theorem im_X2_init : Cond.instanceMethod yX2_init ∈ TB := TB_tab 59 (by decide +kernel) rfl
theorem co_X2_init : Cond.code yX2_init cX2_init 2 none ∈ TB := TB_tab 60 (by decide +kernel) rfl
theorem im_X2_kind : Cond.instanceMethod yX2_kind ∈ TB := TB_tab 326 (by decide +kernel) rfl
theorem se_X2_kind : Cond.selects RX2 yX2_kind yX2_kind ∈ TB := TB_tab 327 (by decide +kernel) rfl
theorem co_X2_kind : Cond.code yX2_kind cX2_kind 1 (some .int) ∈ TB := TB_tab 341 (by decide +kernel) rfl
theorem im_X2_fullPrice : Cond.instanceMethod yX2_fullPrice ∈ TB := TB_tab 359 (by decide +kernel) rfl
theorem se_X2_fullPrice : Cond.selects RX2 yX2_fullPrice yX2_fullPrice ∈ TB := TB_tab 360 (by decide +kernel) rfl
theorem co_X2_fullPrice : Cond.code yX2_fullPrice cX2_fullPrice 1 (some .int) ∈ TB := TB_tab 373 (by decide +kernel) rfl
theorem im_X2_isLendable : Cond.instanceMethod yX2_isLendable ∈ TB := TB_tab 461 (by decide +kernel) rfl
theorem se_X2_isLendable : Cond.selects RX2 yX2_isLendable yX2_isLendable ∈ TB := TB_tab 462 (by decide +kernel) rfl
theorem co_X2_isLendable : Cond.code yX2_isLendable cX2_isLendable 1 (some .boolean) ∈ TB := TB_tab 472 (by decide +kernel) rfl
theorem im_X2_mostOpenAtPeace : Cond.instanceMethod yX2_mostOpenAtPeace ∈ TB := TB_tab 482 (by decide +kernel) rfl
theorem se_X2_mostOpenAtPeace : Cond.selects RX2 yX2_mostOpenAtPeace yX2_mostOpenAtPeace ∈ TB := TB_tab 483 (by decide +kernel) rfl
theorem co_X2_mostOpenAtPeace : Cond.code yX2_mostOpenAtPeace cX2_mostOpenAtPeace 1 (some .int) ∈ TB := TB_tab 491 (by decide +kernel) rfl
theorem im_X3_init : Cond.instanceMethod yX3_init ∈ TB := TB_tab 303 (by decide +kernel) rfl
theorem co_X3_init : Cond.code yX3_init cX3_init 2 none ∈ TB := TB_tab 304 (by decide +kernel) rfl
theorem im_X3_kind : Cond.instanceMethod yX3_kind ∈ TB := TB_tab 333 (by decide +kernel) rfl
theorem co_X3_kind : Cond.code yX3_kind cX3_kind 1 (some .int) ∈ TB := TB_tab 334 (by decide +kernel) rfl
theorem im_X3_fullPrice : Cond.instanceMethod yX3_fullPrice ∈ TB := TB_tab 364 (by decide +kernel) rfl
theorem co_X3_fullPrice : Cond.code yX3_fullPrice cX3_fullPrice 1 (some .int) ∈ TB := TB_tab 365 (by decide +kernel) rfl
theorem im_X3_isLendable : Cond.instanceMethod yX3_isLendable ∈ TB := TB_tab 468 (by decide +kernel) rfl
theorem co_X3_isLendable : Cond.code yX3_isLendable cX3_isLendable 1 (some .boolean) ∈ TB := TB_tab 469 (by decide +kernel) rfl
theorem im_X4_init : Cond.instanceMethod yX4_init ∈ TB := TB_tab 91 (by decide +kernel) rfl
theorem co_X4_init : Cond.code yX4_init cX4_init 2 none ∈ TB := TB_tab 92 (by decide +kernel) rfl
theorem im_X4_begin : Cond.instanceMethod yX4_begin ∈ TB := TB_tab 95 (by decide +kernel) rfl
theorem se_X4_begin : Cond.selects RX4 yX4_begin yX4_begin ∈ TB := TB_tab 96 (by decide +kernel) rfl
theorem co_X4_begin : Cond.code yX4_begin cX4_begin 2 none ∈ TB := TB_tab 97 (by decide +kernel) rfl
theorem im_X4_copyFrom : Cond.instanceMethod yX4_copyFrom ∈ TB := TB_tab 561 (by decide +kernel) rfl
theorem se_X4_copyFrom : Cond.selects RX4 yX4_copyFrom yX4_copyFrom ∈ TB := TB_tab 562 (by decide +kernel) rfl
theorem co_X4_copyFrom : Cond.code yX4_copyFrom cX4_copyFrom 3 none ∈ TB := TB_tab 563 (by decide +kernel) rfl
theorem im_X4_onSide : Cond.instanceMethod yX4_onSide ∈ TB := TB_tab 343 (by decide +kernel) rfl
theorem se_X4_onSide : Cond.selects RX4 yX4_onSide yX4_onSide ∈ TB := TB_tab 344 (by decide +kernel) rfl
theorem co_X4_onSide : Cond.code yX4_onSide cX4_onSide 4 (some .int) ∈ TB := TB_tab 345 (by decide +kernel) rfl
theorem im_X4_lenderOf : Cond.instanceMethod yX4_lenderOf ∈ TB := TB_tab 347 (by decide +kernel) rfl
theorem se_X4_lenderOf : Cond.selects RX4 yX4_lenderOf yX4_lenderOf ∈ TB := TB_tab 348 (by decide +kernel) rfl
theorem co_X4_lenderOf : Cond.code yX4_lenderOf cX4_lenderOf 4 (some .int) ∈ TB := TB_tab 349 (by decide +kernel) rfl
theorem im_X4_isOpen : Cond.instanceMethod yX4_isOpen ∈ TB := TB_tab 375 (by decide +kernel) rfl
theorem se_X4_isOpen : Cond.selects RX4 yX4_isOpen yX4_isOpen ∈ TB := TB_tab 376 (by decide +kernel) rfl
theorem co_X4_isOpen : Cond.code yX4_isOpen cX4_isOpen 3 (some .boolean) ∈ TB := TB_tab 377 (by decide +kernel) rfl
theorem im_X4_isLent : Cond.instanceMethod yX4_isLent ∈ TB := TB_tab 430 (by decide +kernel) rfl
theorem se_X4_isLent : Cond.selects RX4 yX4_isLent yX4_isLent ∈ TB := TB_tab 431 (by decide +kernel) rfl
theorem co_X4_isLent : Cond.code yX4_isLent cX4_isLent 3 (some .boolean) ∈ TB := TB_tab 432 (by decide +kernel) rfl
theorem im_X4_hasToDoWithSide : Cond.instanceMethod yX4_hasToDoWithSide ∈ TB := TB_tab 438 (by decide +kernel) rfl
theorem se_X4_hasToDoWithSide : Cond.selects RX4 yX4_hasToDoWithSide yX4_hasToDoWithSide ∈ TB := TB_tab 439 (by decide +kernel) rfl
theorem co_X4_hasToDoWithSide : Cond.code yX4_hasToDoWithSide cX4_hasToDoWithSide 5 (some .boolean) ∈ TB := TB_tab 440 (by decide +kernel) rfl
theorem im_X4_hasToDo : Cond.instanceMethod yX4_hasToDo ∈ TB := TB_tab 434 (by decide +kernel) rfl
theorem se_X4_hasToDo : Cond.selects RX4 yX4_hasToDo yX4_hasToDo ∈ TB := TB_tab 435 (by decide +kernel) rfl
theorem co_X4_hasToDo : Cond.code yX4_hasToDo cX4_hasToDo 3 (some .boolean) ∈ TB := TB_tab 436 (by decide +kernel) rfl
theorem im_X4_priceOf : Cond.instanceMethod yX4_priceOf ∈ TB := TB_tab 355 (by decide +kernel) rfl
theorem se_X4_priceOf : Cond.selects RX4 yX4_priceOf yX4_priceOf ∈ TB := TB_tab 356 (by decide +kernel) rfl
theorem co_X4_priceOf : Cond.code yX4_priceOf cX4_priceOf 4 (some .int) ∈ TB := TB_tab 357 (by decide +kernel) rfl
theorem im_X4_toldPrice : Cond.instanceMethod yX4_toldPrice ∈ TB := TB_tab 351 (by decide +kernel) rfl
theorem se_X4_toldPrice : Cond.selects RX4 yX4_toldPrice yX4_toldPrice ∈ TB := TB_tab 352 (by decide +kernel) rfl
theorem co_X4_toldPrice : Cond.code yX4_toldPrice cX4_toldPrice 3 (some .int) ∈ TB := TB_tab 353 (by decide +kernel) rfl
theorem im_X4_canBuy : Cond.instanceMethod yX4_canBuy ∈ TB := TB_tab 426 (by decide +kernel) rfl
theorem se_X4_canBuy : Cond.selects RX4 yX4_canBuy yX4_canBuy ∈ TB := TB_tab 427 (by decide +kernel) rfl
theorem co_X4_canBuy : Cond.code yX4_canBuy cX4_canBuy 4 (some .boolean) ∈ TB := TB_tab 428 (by decide +kernel) rfl
theorem im_X4_sellTo : Cond.instanceMethod yX4_sellTo ∈ TB := TB_tab 442 (by decide +kernel) rfl
theorem se_X4_sellTo : Cond.selects RX4 yX4_sellTo yX4_sellTo ∈ TB := TB_tab 443 (by decide +kernel) rfl
theorem co_X4_sellTo : Cond.code yX4_sellTo cX4_sellTo 6 (some .int) ∈ TB := TB_tab 444 (by decide +kernel) rfl
theorem im_X4_pay : Cond.instanceMethod yX4_pay ∈ TB := TB_tab 446 (by decide +kernel) rfl
theorem se_X4_pay : Cond.selects RX4 yX4_pay yX4_pay ∈ TB := TB_tab 447 (by decide +kernel) rfl
theorem co_X4_pay : Cond.code yX4_pay cX4_pay 3 none ∈ TB := TB_tab 448 (by decide +kernel) rfl
theorem im_X4_getOn : Cond.instanceMethod yX4_getOn ∈ TB := TB_tab 568 (by decide +kernel) rfl
theorem se_X4_getOn : Cond.selects RX4 yX4_getOn yX4_getOn ∈ TB := TB_tab 569 (by decide +kernel) rfl
theorem co_X4_getOn : Cond.code yX4_getOn cX4_getOn 4 (some .int) ∈ TB := TB_tab 570 (by decide +kernel) rfl
theorem im_X4_canLend : Cond.instanceMethod yX4_canLend ∈ TB := TB_tab 457 (by decide +kernel) rfl
theorem se_X4_canLend : Cond.selects RX4 yX4_canLend yX4_canLend ∈ TB := TB_tab 458 (by decide +kernel) rfl
theorem co_X4_canLend : Cond.code yX4_canLend cX4_canLend 4 (some .boolean) ∈ TB := TB_tab 459 (by decide +kernel) rfl
theorem im_X4_canStrike : Cond.instanceMethod yX4_canStrike ∈ TB := TB_tab 478 (by decide +kernel) rfl
theorem se_X4_canStrike : Cond.selects RX4 yX4_canStrike yX4_canStrike ∈ TB := TB_tab 479 (by decide +kernel) rfl
theorem co_X4_canStrike : Cond.code yX4_canStrike cX4_canStrike 3 (some .boolean) ∈ TB := TB_tab 480 (by decide +kernel) rfl
theorem im_X4_strike : Cond.instanceMethod yX4_strike ∈ TB := TB_tab 493 (by decide +kernel) rfl
theorem se_X4_strike : Cond.selects RX4 yX4_strike yX4_strike ∈ TB := TB_tab 494 (by decide +kernel) rfl
theorem co_X4_strike : Cond.code yX4_strike cX4_strike 2 none ∈ TB := TB_tab 495 (by decide +kernel) rfl
theorem im_X4_die : Cond.instanceMethod yX4_die ∈ TB := TB_tab 505 (by decide +kernel) rfl
theorem se_X4_die : Cond.selects RX4 yX4_die yX4_die ∈ TB := TB_tab 506 (by decide +kernel) rfl
theorem co_X4_die : Cond.code yX4_die cX4_die 7 (some .int) ∈ TB := TB_tab 507 (by decide +kernel) rfl
theorem im_X4_endLoansOf : Cond.instanceMethod yX4_endLoansOf ∈ TB := TB_tab 510 (by decide +kernel) rfl
theorem se_X4_endLoansOf : Cond.selects RX4 yX4_endLoansOf yX4_endLoansOf ∈ TB := TB_sel 3 (by decide +kernel) rfl
theorem co_X4_endLoansOf : Cond.code yX4_endLoansOf cX4_endLoansOf 3 none ∈ TB := TB_tab 511 (by decide +kernel) rfl
theorem im_X4_inheritorOf : Cond.instanceMethod yX4_inheritorOf ∈ TB := TB_tab 514 (by decide +kernel) rfl
theorem se_X4_inheritorOf : Cond.selects RX4 yX4_inheritorOf yX4_inheritorOf ∈ TB := TB_sel 4 (by decide +kernel) rfl
theorem co_X4_inheritorOf : Cond.code yX4_inheritorOf cX4_inheritorOf 5 (some .int) ∈ TB := TB_tab 515 (by decide +kernel) rfl
theorem im_X4_areOnBothSides : Cond.instanceMethod yX4_areOnBothSides ∈ TB := TB_tab 528 (by decide +kernel) rfl
theorem se_X4_areOnBothSides : Cond.selects RX4 yX4_areOnBothSides yX4_areOnBothSides ∈ TB := TB_tab 529 (by decide +kernel) rfl
theorem co_X4_areOnBothSides : Cond.code yX4_areOnBothSides cX4_areOnBothSides 6 (some .boolean) ∈ TB := TB_tab 530 (by decide +kernel) rfl
theorem im_X4_feudBetween : Cond.instanceMethod yX4_feudBetween ∈ TB := TB_tab 524 (by decide +kernel) rfl
theorem se_X4_feudBetween : Cond.selects RX4 yX4_feudBetween yX4_feudBetween ∈ TB := TB_tab 525 (by decide +kernel) rfl
theorem co_X4_feudBetween : Cond.code yX4_feudBetween cX4_feudBetween 5 (some .int) ∈ TB := TB_tab 526 (by decide +kernel) rfl
theorem im_X4_feudsShared : Cond.instanceMethod yX4_feudsShared ∈ TB := TB_tab 590 (by decide +kernel) rfl
theorem se_X4_feudsShared : Cond.selects RX4 yX4_feudsShared yX4_feudsShared ∈ TB := TB_tab 591 (by decide +kernel) rfl
theorem co_X4_feudsShared : Cond.code yX4_feudsShared cX4_feudsShared 5 (some .int) ∈ TB := TB_tab 592 (by decide +kernel) rfl
theorem im_X4_keepHarm : Cond.instanceMethod yX4_keepHarm ∈ TB := TB_tab 536 (by decide +kernel) rfl
theorem se_X4_keepHarm : Cond.selects RX4 yX4_keepHarm yX4_keepHarm ∈ TB := TB_tab 537 (by decide +kernel) rfl
theorem co_X4_keepHarm : Cond.code yX4_keepHarm cX4_keepHarm 3 (some .boolean) ∈ TB := TB_tab 538 (by decide +kernel) rfl
theorem im_X4_keepRegister : Cond.instanceMethod yX4_keepRegister ∈ TB := TB_tab 650 (by decide +kernel) rfl
theorem se_X4_keepRegister : Cond.selects RX4 yX4_keepRegister yX4_keepRegister ∈ TB := TB_tab 651 (by decide +kernel) rfl
theorem co_X4_keepRegister : Cond.code yX4_keepRegister cX4_keepRegister 3 (some .boolean) ∈ TB := TB_tab 652 (by decide +kernel) rfl
theorem im_X4_registersFit : Cond.instanceMethod yX4_registersFit ∈ TB := TB_tab 662 (by decide +kernel) rfl
theorem se_X4_registersFit : Cond.selects RX4 yX4_registersFit yX4_registersFit ∈ TB := TB_tab 663 (by decide +kernel) rfl
theorem co_X4_registersFit : Cond.code yX4_registersFit cX4_registersFit 7 (some .boolean) ∈ TB := TB_tab 664 (by decide +kernel) rfl
theorem im_X4_endSeason : Cond.instanceMethod yX4_endSeason ∈ TB := TB_tab 544 (by decide +kernel) rfl
theorem se_X4_endSeason : Cond.selects RX4 yX4_endSeason yX4_endSeason ∈ TB := TB_tab 545 (by decide +kernel) rfl
theorem co_X4_endSeason : Cond.code yX4_endSeason cX4_endSeason 3 (some .int) ∈ TB := TB_tab 546 (by decide +kernel) rfl
theorem im_X4_sidesOf : Cond.instanceMethod yX4_sidesOf ∈ TB := TB_tab 397 (by decide +kernel) rfl
theorem se_X4_sidesOf : Cond.selects RX4 yX4_sidesOf yX4_sidesOf ∈ TB := TB_tab 398 (by decide +kernel) rfl
theorem co_X4_sidesOf : Cond.code yX4_sidesOf cX4_sidesOf 5 (some .int) ∈ TB := TB_tab 399 (by decide +kernel) rfl
theorem im_X4_struckFeuds : Cond.instanceMethod yX4_struckFeuds ∈ TB := TB_tab 497 (by decide +kernel) rfl
theorem se_X4_struckFeuds : Cond.selects RX4 yX4_struckFeuds yX4_struckFeuds ∈ TB := TB_tab 498 (by decide +kernel) rfl
theorem co_X4_struckFeuds : Cond.code yX4_struckFeuds cX4_struckFeuds 3 (some .int) ∈ TB := TB_tab 499 (by decide +kernel) rfl
theorem im_X4_peopleAlive : Cond.instanceMethod yX4_peopleAlive ∈ TB := TB_tab 683 (by decide +kernel) rfl
theorem se_X4_peopleAlive : Cond.selects RX4 yX4_peopleAlive yX4_peopleAlive ∈ TB := TB_tab 684 (by decide +kernel) rfl
theorem co_X4_peopleAlive : Cond.code yX4_peopleAlive cX4_peopleAlive 3 (some .int) ∈ TB := TB_tab 685 (by decide +kernel) rfl
theorem im_X4_moneyOfAll : Cond.instanceMethod yX4_moneyOfAll ∈ TB := TB_tab 687 (by decide +kernel) rfl
theorem se_X4_moneyOfAll : Cond.selects RX4 yX4_moneyOfAll yX4_moneyOfAll ∈ TB := TB_tab 688 (by decide +kernel) rfl
theorem co_X4_moneyOfAll : Cond.code yX4_moneyOfAll cX4_moneyOfAll 3 (some .int) ∈ TB := TB_tab 689 (by decide +kernel) rfl
theorem im_X4_openSides : Cond.instanceMethod yX4_openSides ∈ TB := TB_tab 691 (by decide +kernel) rfl
theorem se_X4_openSides : Cond.selects RX4 yX4_openSides yX4_openSides ∈ TB := TB_tab 692 (by decide +kernel) rfl
theorem co_X4_openSides : Cond.code yX4_openSides cX4_openSides 3 (some .int) ∈ TB := TB_tab 693 (by decide +kernel) rfl
theorem im_X4_lentSides : Cond.instanceMethod yX4_lentSides ∈ TB := TB_tab 548 (by decide +kernel) rfl
theorem se_X4_lentSides : Cond.selects RX4 yX4_lentSides yX4_lentSides ∈ TB := TB_tab 549 (by decide +kernel) rfl
theorem co_X4_lentSides : Cond.code yX4_lentSides cX4_lentSides 1 (some .int) ∈ TB := TB_tab 550 (by decide +kernel) rfl
theorem im_X5_init : Cond.instanceMethod yX5_init ∈ TB := TB_tab 295 (by decide +kernel) rfl
theorem co_X5_init : Cond.code yX5_init cX5_init 2 none ∈ TB := TB_tab 296 (by decide +kernel) rfl
theorem im_X5_kind : Cond.instanceMethod yX5_kind ∈ TB := TB_tab 336 (by decide +kernel) rfl
theorem co_X5_kind : Cond.code yX5_kind cX5_kind 1 (some .int) ∈ TB := TB_tab 337 (by decide +kernel) rfl
theorem im_X5_fullPrice : Cond.instanceMethod yX5_fullPrice ∈ TB := TB_tab 367 (by decide +kernel) rfl
theorem co_X5_fullPrice : Cond.code yX5_fullPrice cX5_fullPrice 1 (some .int) ∈ TB := TB_tab 368 (by decide +kernel) rfl
theorem im_X5_mostOpenAtPeace : Cond.instanceMethod yX5_mostOpenAtPeace ∈ TB := TB_tab 488 (by decide +kernel) rfl
theorem co_X5_mostOpenAtPeace : Cond.code yX5_mostOpenAtPeace cX5_mostOpenAtPeace 1 (some .int) ∈ TB := TB_tab 489 (by decide +kernel) rfl
theorem im_X6_init : Cond.instanceMethod yX6_init ∈ TB := TB_tab 154 (by decide +kernel) rfl
theorem co_X6_init : Cond.code yX6_init cX6_init 1 none ∈ TB := TB_tab 155 (by decide +kernel) rfl
theorem im_X6_pairUp : Cond.instanceMethod yX6_pairUp ∈ TB := TB_tab 582 (by decide +kernel) rfl
theorem se_X6_pairUp : Cond.selects RX6 yX6_pairUp yX6_pairUp ∈ TB := TB_tab 583 (by decide +kernel) rfl
theorem co_X6_pairUp : Cond.code yX6_pairUp cX6_pairUp 3 none ∈ TB := TB_tab 584 (by decide +kernel) rfl
theorem im_X6_reckonGains : Cond.instanceMethod yX6_reckonGains ∈ TB := TB_tab 587 (by decide +kernel) rfl
theorem se_X6_reckonGains : Cond.selects RX6 yX6_reckonGains yX6_reckonGains ∈ TB := TB_sel 6 (by decide +kernel) rfl
theorem co_X6_reckonGains : Cond.code yX6_reckonGains cX6_reckonGains 5 none ∈ TB := TB_tab 588 (by decide +kernel) rfl
theorem im_X6_bestOf : Cond.instanceMethod yX6_bestOf ∈ TB := TB_tab 595 (by decide +kernel) rfl
theorem se_X6_bestOf : Cond.selects RX6 yX6_bestOf yX6_bestOf ∈ TB := TB_sel 7 (by decide +kernel) rfl
theorem co_X6_bestOf : Cond.code yX6_bestOf cX6_bestOf 7 (some .int) ∈ TB := TB_tab 596 (by decide +kernel) rfl
theorem sa_X6_leastOf : Cond.static yX6_leastOf ∈ TB := TB_tab 598 (by decide +kernel) rfl
theorem co_X6_leastOf : Cond.code yX6_leastOf cX6_leastOf 2 (some .int) ∈ TB := TB_tab 599 (by decide +kernel) rfl
theorem im_X7_init : Cond.instanceMethod yX7_init ∈ TB := TB_tab 175 (by decide +kernel) rfl
theorem co_X7_init : Cond.code yX7_init cX7_init 1 none ∈ TB := TB_tab 176 (by decide +kernel) rfl
theorem im_X7_reckon : Cond.instanceMethod yX7_reckon ∈ TB := TB_tab 614 (by decide +kernel) rfl
theorem se_X7_reckon : Cond.selects RX7 yX7_reckon yX7_reckon ∈ TB := TB_tab 615 (by decide +kernel) rfl
theorem co_X7_reckon : Cond.code yX7_reckon cX7_reckon 10 none ∈ TB := TB_tab 616 (by decide +kernel) rfl
theorem im_X7_addFeud : Cond.instanceMethod yX7_addFeud ∈ TB := TB_tab 624 (by decide +kernel) rfl
theorem se_X7_addFeud : Cond.selects RX7 yX7_addFeud yX7_addFeud ∈ TB := TB_sel 8 (by decide +kernel) rfl
theorem co_X7_addFeud : Cond.code yX7_addFeud cX7_addFeud 6 none ∈ TB := TB_tab 625 (by decide +kernel) rfl
theorem im_X7_above : Cond.instanceMethod yX7_above ∈ TB := TB_tab 627 (by decide +kernel) rfl
theorem se_X7_above : Cond.selects RX7 yX7_above yX7_above ∈ TB := TB_tab 628 (by decide +kernel) rfl
theorem co_X7_above : Cond.code yX7_above cX7_above 2 (some .long) ∈ TB := TB_tab 629 (by decide +kernel) rfl
theorem im_X7_below : Cond.instanceMethod yX7_below ∈ TB := TB_tab 642 (by decide +kernel) rfl
theorem se_X7_below : Cond.selects RX7 yX7_below yX7_below ∈ TB := TB_tab 643 (by decide +kernel) rfl
theorem co_X7_below : Cond.code yX7_below cX7_below 2 (some .long) ∈ TB := TB_tab 644 (by decide +kernel) rfl
theorem im_X7_waysOf : Cond.instanceMethod yX7_waysOf ∈ TB := TB_tab 632 (by decide +kernel) rfl
theorem se_X7_waysOf : Cond.selects RX7 yX7_waysOf yX7_waysOf ∈ TB := TB_sel 9 (by decide +kernel) rfl
theorem co_X7_waysOf : Cond.code yX7_waysOf cX7_waysOf 2 (some .long) ∈ TB := TB_tab 633 (by decide +kernel) rfl
theorem im_X7_inLowest : Cond.instanceMethod yX7_inLowest ∈ TB := TB_tab 636 (by decide +kernel) rfl
theorem se_X7_inLowest : Cond.selects RX7 yX7_inLowest yX7_inLowest ∈ TB := TB_sel 10 (by decide +kernel) rfl
theorem co_X7_inLowest : Cond.code yX7_inLowest cX7_inLowest 7 (some .long) ∈ TB := TB_tab 637 (by decide +kernel) rfl
theorem sa_X7_commonDivisor : Cond.static yX7_commonDivisor ∈ TB := TB_tab 639 (by decide +kernel) rfl
theorem co_X7_commonDivisor : Cond.code yX7_commonDivisor cX7_commonDivisor 11 (some .long) ∈ TB := TB_tab 640 (by decide +kernel) rfl
theorem im_X8_init : Cond.instanceMethod yX8_init ∈ TB := TB_tab 29 (by decide +kernel) rfl
theorem co_X8_init : Cond.code yX8_init cX8_init 1 none ∈ TB := TB_tab 30 (by decide +kernel) rfl
theorem im_X8_write : Cond.instanceMethod yX8_write ∈ TB := TB_tab 233 (by decide +kernel) rfl
theorem se_X8_write : Cond.selects RX8 yX8_write yX8_write ∈ TB := TB_tab 234 (by decide +kernel) rfl
theorem co_X8_write : Cond.code yX8_write cX8_write 2 (some .boolean) ∈ TB := TB_tab 235 (by decide +kernel) rfl
theorem im_X8_wipe : Cond.instanceMethod yX8_wipe ∈ TB := TB_tab 241 (by decide +kernel) rfl
theorem se_X8_wipe : Cond.selects RX8 yX8_wipe yX8_wipe ∈ TB := TB_tab 242 (by decide +kernel) rfl
theorem co_X8_wipe : Cond.code yX8_wipe cX8_wipe 2 (some .int) ∈ TB := TB_tab 243 (by decide +kernel) rfl
theorem im_X8_codeAt : Cond.instanceMethod yX8_codeAt ∈ TB := TB_tab 257 (by decide +kernel) rfl
theorem se_X8_codeAt : Cond.selects RX8 yX8_codeAt yX8_codeAt ∈ TB := TB_tab 258 (by decide +kernel) rfl
theorem co_X8_codeAt : Cond.code yX8_codeAt cX8_codeAt 2 (some .int) ∈ TB := TB_tab 259 (by decide +kernel) rfl
theorem im_X8_isList : Cond.instanceMethod yX8_isList ∈ TB := TB_tab 271 (by decide +kernel) rfl
theorem se_X8_isList : Cond.selects RX8 yX8_isList yX8_isList ∈ TB := TB_tab 272 (by decide +kernel) rfl
theorem co_X8_isList : Cond.code yX8_isList cX8_isList 1 (some .boolean) ∈ TB := TB_tab 273 (by decide +kernel) rfl
theorem im_X8_scan : Cond.instanceMethod yX8_scan ∈ TB := TB_tab 249 (by decide +kernel) rfl
theorem se_X8_scan : Cond.selects RX8 yX8_scan yX8_scan ∈ TB := TB_tab 250 (by decide +kernel) rfl
theorem co_X8_scan : Cond.code yX8_scan cX8_scan 5 none ∈ TB := TB_tab 251 (by decide +kernel) rfl
theorem im_X8_stageBehind : Cond.instanceMethod yX8_stageBehind ∈ TB := TB_tab 254 (by decide +kernel) rfl
theorem se_X8_stageBehind : Cond.selects RX8 yX8_stageBehind yX8_stageBehind ∈ TB := TB_sel 0 (by decide +kernel) rfl
theorem co_X8_stageBehind : Cond.code yX8_stageBehind cX8_stageBehind 5 (some .int) ∈ TB := TB_tab 255 (by decide +kernel) rfl
theorem sa_X8_namesPerson : Cond.static yX8_namesPerson ∈ TB := TB_tab 264 (by decide +kernel) rfl
theorem co_X8_namesPerson : Cond.code yX8_namesPerson cX8_namesPerson 1 (some .boolean) ∈ TB := TB_tab 265 (by decide +kernel) rfl
theorem im_X9_init : Cond.instanceMethod yX9_init ∈ TB := TB_tab 311 (by decide +kernel) rfl
theorem co_X9_init : Cond.code yX9_init cX9_init 2 none ∈ TB := TB_tab 312 (by decide +kernel) rfl
theorem im_X9_kind : Cond.instanceMethod yX9_kind ∈ TB := TB_tab 339 (by decide +kernel) rfl
theorem co_X9_kind : Cond.code yX9_kind cX9_kind 1 (some .int) ∈ TB := TB_tab 340 (by decide +kernel) rfl
theorem im_X9_fullPrice : Cond.instanceMethod yX9_fullPrice ∈ TB := TB_tab 370 (by decide +kernel) rfl
theorem co_X9_fullPrice : Cond.code yX9_fullPrice cX9_fullPrice 1 (some .int) ∈ TB := TB_tab 371 (by decide +kernel) rfl
theorem im_X10_init : Cond.instanceMethod yX10_init ∈ TB := TB_tab 52 (by decide +kernel) rfl
theorem co_X10_init : Cond.code yX10_init cX10_init 2 none ∈ TB := TB_tab 53 (by decide +kernel) rfl
theorem im_X10_readFrom : Cond.instanceMethod yX10_readFrom ∈ TB := TB_tab 276 (by decide +kernel) rfl
theorem se_X10_readFrom : Cond.selects RX10 yX10_readFrom yX10_readFrom ∈ TB := TB_tab 277 (by decide +kernel) rfl
theorem co_X10_readFrom : Cond.code yX10_readFrom cX10_readFrom 4 none ∈ TB := TB_tab 278 (by decide +kernel) rfl
theorem sa_X10_kindOfLetter : Cond.static yX10_kindOfLetter ∈ TB := TB_tab 261 (by decide +kernel) rfl
theorem co_X10_kindOfLetter : Cond.code yX10_kindOfLetter cX10_kindOfLetter 1 (some .int) ∈ TB := TB_tab 262 (by decide +kernel) rfl
theorem sa_X10_feudOf : Cond.static yX10_feudOf ∈ TB := TB_tab 282 (by decide +kernel) rfl
theorem co_X10_feudOf : Cond.code yX10_feudOf cX10_feudOf 2 (some (.object "ClosedFeuds$Feud")) ∈ TB := TB_tab 283 (by decide +kernel) rfl
theorem im_X11_init : Cond.instanceMethod yX11_init ∈ TB := TB_tab 21 (by decide +kernel) rfl
theorem co_X11_init : Cond.code yX11_init cX11_init 1 none ∈ TB := TB_tab 22 (by decide +kernel) rfl
theorem im_X11_letter : Cond.instanceMethod yX11_letter ∈ TB := TB_tab 229 (by decide +kernel) rfl
theorem se_X11_letter : Cond.selects RX11 yX11_letter yX11_letter ∈ TB := TB_tab 230 (by decide +kernel) rfl
theorem co_X11_letter : Cond.code yX11_letter cX11_letter 2 (some .int) ∈ TB := TB_tab 231 (by decide +kernel) rfl
theorem im_X11_blank : Cond.instanceMethod yX11_blank ∈ TB := TB_tab 237 (by decide +kernel) rfl
theorem se_X11_blank : Cond.selects RX11 yX11_blank yX11_blank ∈ TB := TB_tab 238 (by decide +kernel) rfl
theorem co_X11_blank : Cond.code yX11_blank cX11_blank 1 (some .int) ∈ TB := TB_tab 239 (by decide +kernel) rfl
theorem im_X11_fault : Cond.instanceMethod yX11_fault ∈ TB := TB_tab 245 (by decide +kernel) rfl
theorem se_X11_fault : Cond.selects RX11 yX11_fault yX11_fault ∈ TB := TB_tab 246 (by decide +kernel) rfl
theorem co_X11_fault : Cond.code yX11_fault cX11_fault 1 (some .int) ∈ TB := TB_tab 247 (by decide +kernel) rfl
theorem im_X11_list : Cond.instanceMethod yX11_list ∈ TB := TB_tab 267 (by decide +kernel) rfl
theorem se_X11_list : Cond.selects RX11 yX11_list yX11_list ∈ TB := TB_tab 268 (by decide +kernel) rfl
theorem co_X11_list : Cond.code yX11_list cX11_list 1 (some .int) ∈ TB := TB_tab 269 (by decide +kernel) rfl
theorem im_X11_about : Cond.instanceMethod yX11_about ∈ TB := TB_tab 318 (by decide +kernel) rfl
theorem se_X11_about : Cond.selects RX11 yX11_about yX11_about ∈ TB := TB_tab 319 (by decide +kernel) rfl
theorem co_X11_about : Cond.code yX11_about cX11_about 3 (some .int) ∈ TB := TB_tab 320 (by decide +kernel) rfl
theorem im_X11_as : Cond.instanceMethod yX11_as ∈ TB := TB_tab 379 (by decide +kernel) rfl
theorem se_X11_as : Cond.selects RX11 yX11_as yX11_as ∈ TB := TB_tab 380 (by decide +kernel) rfl
theorem co_X11_as : Cond.code yX11_as cX11_as 3 (some .int) ∈ TB := TB_tab 381 (by decide +kernel) rfl
theorem im_X11_person : Cond.instanceMethod yX11_person ∈ TB := TB_tab 390 (by decide +kernel) rfl
theorem se_X11_person : Cond.selects RX11 yX11_person yX11_person ∈ TB := TB_tab 391 (by decide +kernel) rfl
theorem co_X11_person : Cond.code yX11_person cX11_person 3 (some .int) ∈ TB := TB_tab 392 (by decide +kernel) rfl
theorem im_X11_heir : Cond.instanceMethod yX11_heir ∈ TB := TB_tab 411 (by decide +kernel) rfl
theorem se_X11_heir : Cond.selects RX11 yX11_heir yX11_heir ∈ TB := TB_tab 412 (by decide +kernel) rfl
theorem co_X11_heir : Cond.code yX11_heir cX11_heir 4 (some .int) ∈ TB := TB_tab 413 (by decide +kernel) rfl
theorem im_X11_buy : Cond.instanceMethod yX11_buy ∈ TB := TB_tab 419 (by decide +kernel) rfl
theorem se_X11_buy : Cond.selects RX11 yX11_buy yX11_buy ∈ TB := TB_tab 420 (by decide +kernel) rfl
theorem co_X11_buy : Cond.code yX11_buy cX11_buy 4 (some .int) ∈ TB := TB_tab 421 (by decide +kernel) rfl
theorem im_X11_lend : Cond.instanceMethod yX11_lend ∈ TB := TB_tab 453 (by decide +kernel) rfl
theorem se_X11_lend : Cond.selects RX11 yX11_lend yX11_lend ∈ TB := TB_tab 454 (by decide +kernel) rfl
theorem co_X11_lend : Cond.code yX11_lend cX11_lend 4 (some .int) ∈ TB := TB_tab 455 (by decide +kernel) rfl
theorem im_X11_peace : Cond.instanceMethod yX11_peace ∈ TB := TB_tab 474 (by decide +kernel) rfl
theorem se_X11_peace : Cond.selects RX11 yX11_peace yX11_peace ∈ TB := TB_tab 475 (by decide +kernel) rfl
theorem co_X11_peace : Cond.code yX11_peace cX11_peace 2 (some .int) ∈ TB := TB_tab 476 (by decide +kernel) rfl
theorem im_X11_death : Cond.instanceMethod yX11_death ∈ TB := TB_tab 501 (by decide +kernel) rfl
theorem se_X11_death : Cond.selects RX11 yX11_death yX11_death ∈ TB := TB_tab 502 (by decide +kernel) rfl
theorem co_X11_death : Cond.code yX11_death cX11_death 2 (some .int) ∈ TB := TB_tab 503 (by decide +kernel) rfl
theorem im_X11_mayHarm : Cond.instanceMethod yX11_mayHarm ∈ TB := TB_tab 517 (by decide +kernel) rfl
theorem se_X11_mayHarm : Cond.selects RX11 yX11_mayHarm yX11_mayHarm ∈ TB := TB_tab 518 (by decide +kernel) rfl
theorem co_X11_mayHarm : Cond.code yX11_mayHarm cX11_mayHarm 3 (some .int) ∈ TB := TB_tab 519 (by decide +kernel) rfl
theorem im_X11_harm : Cond.instanceMethod yX11_harm ∈ TB := TB_tab 532 (by decide +kernel) rfl
theorem se_X11_harm : Cond.selects RX11 yX11_harm yX11_harm ∈ TB := TB_tab 533 (by decide +kernel) rfl
theorem co_X11_harm : Cond.code yX11_harm cX11_harm 4 (some .int) ∈ TB := TB_tab 534 (by decide +kernel) rfl
theorem im_X11_season : Cond.instanceMethod yX11_season ∈ TB := TB_tab 540 (by decide +kernel) rfl
theorem se_X11_season : Cond.selects RX11 yX11_season yX11_season ∈ TB := TB_tab 541 (by decide +kernel) rfl
theorem co_X11_season : Cond.code yX11_season cX11_season 1 (some .int) ∈ TB := TB_tab 542 (by decide +kernel) rfl
theorem im_X11_comeBy : Cond.instanceMethod yX11_comeBy ∈ TB := TB_tab 553 (by decide +kernel) rfl
theorem se_X11_comeBy : Cond.selects RX11 yX11_comeBy yX11_comeBy ∈ TB := TB_tab 554 (by decide +kernel) rfl
theorem co_X11_comeBy : Cond.code yX11_comeBy cX11_comeBy 8 (some .int) ∈ TB := TB_tab 555 (by decide +kernel) rfl
theorem im_X11_marry : Cond.instanceMethod yX11_marry ∈ TB := TB_tab 578 (by decide +kernel) rfl
theorem se_X11_marry : Cond.selects RX11 yX11_marry yX11_marry ∈ TB := TB_tab 579 (by decide +kernel) rfl
theorem co_X11_marry : Cond.code yX11_marry cX11_marry 2 (some .int) ∈ TB := TB_tab 580 (by decide +kernel) rfl
theorem im_X11_wills : Cond.instanceMethod yX11_wills ∈ TB := TB_tab 604 (by decide +kernel) rfl
theorem se_X11_wills : Cond.selects RX11 yX11_wills yX11_wills ∈ TB := TB_tab 605 (by decide +kernel) rfl
theorem co_X11_wills : Cond.code yX11_wills cX11_wills 4 (some .int) ∈ TB := TB_tab 606 (by decide +kernel) rfl
theorem im_X11_left : Cond.instanceMethod yX11_left ∈ TB := TB_tab 608 (by decide +kernel) rfl
theorem se_X11_left : Cond.selects RX11 yX11_left yX11_left ∈ TB := TB_tab 609 (by decide +kernel) rfl
theorem co_X11_left : Cond.code yX11_left cX11_left 4 (some .long) ∈ TB := TB_tab 610 (by decide +kernel) rfl
theorem im_X11_register : Cond.instanceMethod yX11_register ∈ TB := TB_tab 646 (by decide +kernel) rfl
theorem se_X11_register : Cond.selects RX11 yX11_register yX11_register ∈ TB := TB_tab 647 (by decide +kernel) rfl
theorem co_X11_register : Cond.code yX11_register cX11_register 3 (some .int) ∈ TB := TB_tab 648 (by decide +kernel) rfl
theorem im_X11_forget : Cond.instanceMethod yX11_forget ∈ TB := TB_tab 654 (by decide +kernel) rfl
theorem se_X11_forget : Cond.selects RX11 yX11_forget yX11_forget ∈ TB := TB_tab 655 (by decide +kernel) rfl
theorem co_X11_forget : Cond.code yX11_forget cX11_forget 2 (some .int) ∈ TB := TB_tab 656 (by decide +kernel) rfl
theorem im_X11_lapsed : Cond.instanceMethod yX11_lapsed ∈ TB := TB_tab 658 (by decide +kernel) rfl
theorem se_X11_lapsed : Cond.selects RX11 yX11_lapsed yX11_lapsed ∈ TB := TB_tab 659 (by decide +kernel) rfl
theorem co_X11_lapsed : Cond.code yX11_lapsed cX11_lapsed 6 (some .int) ∈ TB := TB_tab 660 (by decide +kernel) rfl
theorem im_X11_years : Cond.instanceMethod yX11_years ∈ TB := TB_tab 667 (by decide +kernel) rfl
theorem se_X11_years : Cond.selects RX11 yX11_years yX11_years ∈ TB := TB_tab 668 (by decide +kernel) rfl
theorem co_X11_years : Cond.code yX11_years cX11_years 5 (some .int) ∈ TB := TB_tab 669 (by decide +kernel) rfl
theorem im_X11_image : Cond.instanceMethod yX11_image ∈ TB := TB_tab 695 (by decide +kernel) rfl
theorem se_X11_image : Cond.selects RX11 yX11_image yX11_image ∈ TB := TB_tab 696 (by decide +kernel) rfl
theorem co_X11_image : Cond.code yX11_image cX11_image 1 (some .int) ∈ TB := TB_tab 697 (by decide +kernel) rfl
theorem im_X11_restore : Cond.instanceMethod yX11_restore ∈ TB := TB_tab 699 (by decide +kernel) rfl
theorem se_X11_restore : Cond.selects RX11 yX11_restore yX11_restore ∈ TB := TB_tab 700 (by decide +kernel) rfl
theorem co_X11_restore : Cond.code yX11_restore cX11_restore 1 (some .int) ∈ TB := TB_tab 701 (by decide +kernel) rfl
theorem im_X11_count : Cond.instanceMethod yX11_count ∈ TB := TB_tab 703 (by decide +kernel) rfl
theorem se_X11_count : Cond.selects RX11 yX11_count yX11_count ∈ TB := TB_tab 704 (by decide +kernel) rfl
theorem co_X11_count : Cond.code yX11_count cX11_count 2 (some .int) ∈ TB := TB_tab 705 (by decide +kernel) rfl
theorem im_X11_digest : Cond.instanceMethod yX11_digest ∈ TB := TB_tab 708 (by decide +kernel) rfl
theorem se_X11_digest : Cond.selects RX11 yX11_digest yX11_digest ∈ TB := TB_tab 709 (by decide +kernel) rfl
theorem co_X11_digest : Cond.code yX11_digest cX11_digest 4 (some .long) ∈ TB := TB_tab 710 (by decide +kernel) rfl
theorem sa_X11_fold : Cond.static yX11_fold ∈ TB := TB_tab 718 (by decide +kernel) rfl
theorem co_X11_fold : Cond.code yX11_fold cX11_fold 4 (some .long) ∈ TB := TB_tab 719 (by decide +kernel) rfl
theorem im_X11_foldFeuds : Cond.instanceMethod yX11_foldFeuds ∈ TB := TB_tab 714 (by decide +kernel) rfl
theorem se_X11_foldFeuds : Cond.selects RX11 yX11_foldFeuds yX11_foldFeuds ∈ TB := TB_sel 12 (by decide +kernel) rfl
theorem co_X11_foldFeuds : Cond.code yX11_foldFeuds cX11_foldFeuds 7 (some .long) ∈ TB := TB_tab 715 (by decide +kernel) rfl
theorem im_X11_foldPeople : Cond.instanceMethod yX11_foldPeople ∈ TB := TB_tab 723 (by decide +kernel) rfl
theorem se_X11_foldPeople : Cond.selects RX11 yX11_foldPeople yX11_foldPeople ∈ TB := TB_sel 13 (by decide +kernel) rfl
theorem co_X11_foldPeople : Cond.code yX11_foldPeople cX11_foldPeople 7 (some .long) ∈ TB := TB_tab 724 (by decide +kernel) rfl
theorem im_X11_foldHarming : Cond.instanceMethod yX11_foldHarming ∈ TB := TB_tab 728 (by decide +kernel) rfl
theorem se_X11_foldHarming : Cond.selects RX11 yX11_foldHarming yX11_foldHarming ∈ TB := TB_sel 14 (by decide +kernel) rfl
theorem co_X11_foldHarming : Cond.code yX11_foldHarming cX11_foldHarming 7 (some .long) ∈ TB := TB_tab 729 (by decide +kernel) rfl
theorem im_X11_hasList : Cond.instanceMethod yX11_hasList ∈ TB := TB_tab 416 (by decide +kernel) rfl
theorem se_X11_hasList : Cond.selects RX11 yX11_hasList yX11_hasList ∈ TB := TB_sel 2 (by decide +kernel) rfl
theorem co_X11_hasList : Cond.code yX11_hasList cX11_hasList 1 (some .boolean) ∈ TB := TB_tab 417 (by decide +kernel) rfl
theorem im_X11_isFeud : Cond.instanceMethod yX11_isFeud ∈ TB := TB_tab 323 (by decide +kernel) rfl
theorem se_X11_isFeud : Cond.selects RX11 yX11_isFeud yX11_isFeud ∈ TB := TB_sel 1 (by decide +kernel) rfl
theorem co_X11_isFeud : Cond.code yX11_isFeud cX11_isFeud 2 (some .boolean) ∈ TB := TB_tab 324 (by decide +kernel) rfl
theorem sa_X11_isPerson : Cond.static yX11_isPerson ∈ TB := TB_tab 394 (by decide +kernel) rfl
theorem co_X11_isPerson : Cond.code yX11_isPerson cX11_isPerson 1 (some .boolean) ∈ TB := TB_tab 395 (by decide +kernel) rfl
theorem sa_X11_areTwo : Cond.static yX11_areTwo ∈ TB := TB_tab 521 (by decide +kernel) rfl
theorem co_X11_areTwo : Cond.code yX11_areTwo cX11_areTwo 2 (some .boolean) ∈ TB := TB_tab 522 (by decide +kernel) rfl
theorem sa_X11_isBit : Cond.static yX11_isBit ∈ TB := TB_tab 423 (by decide +kernel) rfl
theorem co_X11_isBit : Cond.code yX11_isBit cX11_isBit 1 (some .boolean) ∈ TB := TB_tab 424 (by decide +kernel) rfl
theorem sa_X11_isOfKind : Cond.static yX11_isOfKind ∈ TB := TB_tab 383 (by decide +kernel) rfl
theorem co_X11_isOfKind : Cond.code yX11_isOfKind cX11_isOfKind 2 (some .boolean) ∈ TB := TB_tab 384 (by decide +kernel) rfl
theorem sa_X11_times : Cond.static yX11_times ∈ TB := TB_tab 408 (by decide +kernel) rfl
theorem co_X11_times : Cond.code yX11_times cX11_times 5 (some .int) ∈ TB := TB_tab 409 (by decide +kernel) rfl
theorem sa_X11_cheaper : Cond.static yX11_cheaper ∈ TB := TB_tab 574 (by decide +kernel) rfl
theorem co_X11_cheaper : Cond.code yX11_cheaper cX11_cheaper 2 (some .int) ∈ TB := TB_tab 575 (by decide +kernel) rfl
theorem im_X11_costOfFeud : Cond.instanceMethod yX11_costOfFeud ∈ TB := TB_tab 558 (by decide +kernel) rfl
theorem se_X11_costOfFeud : Cond.selects RX11 yX11_costOfFeud yX11_costOfFeud ∈ TB := TB_sel 5 (by decide +kernel) rfl
theorem co_X11_costOfFeud : Cond.code yX11_costOfFeud cX11_costOfFeud 6 (some .int) ∈ TB := TB_tab 559 (by decide +kernel) rfl
theorem im_X11_liveYear : Cond.instanceMethod yX11_liveYear ∈ TB := TB_tab 672 (by decide +kernel) rfl
theorem se_X11_liveYear : Cond.selects RX11 yX11_liveYear yX11_liveYear ∈ TB := TB_sel 11 (by decide +kernel) rfl
theorem co_X11_liveYear : Cond.code yX11_liveYear cX11_liveYear 5 none ∈ TB := TB_tab 673 (by decide +kernel) rfl
theorem im_X12_init : Cond.instanceMethod yX12_init ∈ TB := TB_tab 738 (by decide +kernel) rfl
theorem co_X12_init : Cond.code yX12_init cX12_init 1 none ∈ TB := TB_tab 739 (by decide +kernel) rfl
theorem sa_X12_in : Cond.static yX12_in ∈ TB := TB_tab 830 (by decide +kernel) rfl
theorem co_X12_in : Cond.code yX12_in cX12_in 6 (some .boolean) ∈ TB := TB_tab 831 (by decide +kernel) rfl
theorem im_X12_letter : Cond.instanceMethod yX12_letter ∈ TB := TB_tab 825 (by decide +kernel) rfl
theorem se_X12_letter : Cond.selects RX12 yX12_letter yX12_letter ∈ TB := TB_tab 826 (by decide +kernel) rfl
theorem co_X12_letter : Cond.code yX12_letter cX12_letter 2 (some .int) ∈ TB := TB_tab 827 (by decide +kernel) rfl
theorem im_X12_blank : Cond.instanceMethod yX12_blank ∈ TB := TB_tab 833 (by decide +kernel) rfl
theorem se_X12_blank : Cond.selects RX12 yX12_blank yX12_blank ∈ TB := TB_tab 834 (by decide +kernel) rfl
theorem co_X12_blank : Cond.code yX12_blank cX12_blank 2 (some .int) ∈ TB := TB_tab 835 (by decide +kernel) rfl
theorem sa_X12_kindBy : Cond.static yX12_kindBy ∈ TB := TB_tab 851 (by decide +kernel) rfl
theorem co_X12_kindBy : Cond.code yX12_kindBy cX12_kindBy 1 (some .int) ∈ TB := TB_tab 852 (by decide +kernel) rfl
theorem im_X12_go : Cond.instanceMethod yX12_go ∈ TB := TB_tab 846 (by decide +kernel) rfl
theorem se_X12_go : Cond.selects RX12 yX12_go yX12_go ∈ TB := TB_sel 17 (by decide +kernel) rfl
theorem co_X12_go : Cond.code yX12_go cX12_go 4 (some .boolean) ∈ TB := TB_tab 847 (by decide +kernel) rfl
theorem im_X12_faultOf : Cond.instanceMethod yX12_faultOf ∈ TB := TB_tab 842 (by decide +kernel) rfl
theorem se_X12_faultOf : Cond.selects RX12 yX12_faultOf yX12_faultOf ∈ TB := TB_sel 16 (by decide +kernel) rfl
theorem co_X12_faultOf : Cond.code yX12_faultOf cX12_faultOf 2 (some .int) ∈ TB := TB_tab 843 (by decide +kernel) rfl
theorem im_X12_fault : Cond.instanceMethod yX12_fault ∈ TB := TB_tab 837 (by decide +kernel) rfl
theorem se_X12_fault : Cond.selects RX12 yX12_fault yX12_fault ∈ TB := TB_tab 838 (by decide +kernel) rfl
theorem co_X12_fault : Cond.code yX12_fault cX12_fault 1 (some .int) ∈ TB := TB_tab 839 (by decide +kernel) rfl
theorem im_X12_peopleAsAtFirst : Cond.instanceMethod yX12_peopleAsAtFirst ∈ TB := TB_tab 743 (by decide +kernel) rfl
theorem se_X12_peopleAsAtFirst : Cond.selects RX12 yX12_peopleAsAtFirst yX12_peopleAsAtFirst ∈ TB := TB_sel 15 (by decide +kernel) rfl
theorem co_X12_peopleAsAtFirst : Cond.code yX12_peopleAsAtFirst cX12_peopleAsAtFirst 2 none ∈ TB := TB_tab 744 (by decide +kernel) rfl
theorem im_X12_list : Cond.instanceMethod yX12_list ∈ TB := TB_tab 854 (by decide +kernel) rfl
theorem se_X12_list : Cond.selects RX12 yX12_list yX12_list ∈ TB := TB_tab 855 (by decide +kernel) rfl
theorem co_X12_list : Cond.code yX12_list cX12_list 3 (some .int) ∈ TB := TB_tab 856 (by decide +kernel) rfl
theorem im_X12_lacks : Cond.instanceMethod yX12_lacks ∈ TB := TB_tab 919 (by decide +kernel) rfl
theorem se_X12_lacks : Cond.selects RX12 yX12_lacks yX12_lacks ∈ TB := TB_sel 28 (by decide +kernel) rfl
theorem co_X12_lacks : Cond.code yX12_lacks cX12_lacks 1 (some .boolean) ∈ TB := TB_tab 920 (by decide +kernel) rfl
theorem im_X12_isFeud : Cond.instanceMethod yX12_isFeud ∈ TB := TB_tab 863 (by decide +kernel) rfl
theorem se_X12_isFeud : Cond.selects RX12 yX12_isFeud yX12_isFeud ∈ TB := TB_sel 18 (by decide +kernel) rfl
theorem co_X12_isFeud : Cond.code yX12_isFeud cX12_isFeud 2 (some .boolean) ∈ TB := TB_tab 864 (by decide +kernel) rfl
theorem sa_X12_isPerson : Cond.static yX12_isPerson ∈ TB := TB_tab 899 (by decide +kernel) rfl
theorem co_X12_isPerson : Cond.code yX12_isPerson cX12_isPerson 1 (some .boolean) ∈ TB := TB_tab 900 (by decide +kernel) rfl
theorem sa_X12_arePair : Cond.static yX12_arePair ∈ TB := TB_tab 973 (by decide +kernel) rfl
theorem co_X12_arePair : Cond.code yX12_arePair cX12_arePair 2 (some .boolean) ∈ TB := TB_tab 974 (by decide +kernel) rfl
theorem im_X12_isStruck : Cond.instanceMethod yX12_isStruck ∈ TB := TB_tab 883 (by decide +kernel) rfl
theorem se_X12_isStruck : Cond.selects RX12 yX12_isStruck yX12_isStruck ∈ TB := TB_sel 23 (by decide +kernel) rfl
theorem co_X12_isStruck : Cond.code yX12_isStruck cX12_isStruck 2 (some .boolean) ∈ TB := TB_tab 884 (by decide +kernel) rfl
theorem im_X12_isAlive : Cond.instanceMethod yX12_isAlive ∈ TB := TB_tab 923 (by decide +kernel) rfl
theorem se_X12_isAlive : Cond.selects RX12 yX12_isAlive yX12_isAlive ∈ TB := TB_sel 29 (by decide +kernel) rfl
theorem co_X12_isAlive : Cond.code yX12_isAlive cX12_isAlive 2 (some .boolean) ∈ TB := TB_tab 924 (by decide +kernel) rfl
theorem im_X12_ownerOf : Cond.instanceMethod yX12_ownerOf ∈ TB := TB_tab 879 (by decide +kernel) rfl
theorem se_X12_ownerOf : Cond.selects RX12 yX12_ownerOf yX12_ownerOf ∈ TB := TB_sel 22 (by decide +kernel) rfl
theorem co_X12_ownerOf : Cond.code yX12_ownerOf cX12_ownerOf 3 (some .int) ∈ TB := TB_tab 880 (by decide +kernel) rfl
theorem im_X12_borrowerOf : Cond.instanceMethod yX12_borrowerOf ∈ TB := TB_tab 875 (by decide +kernel) rfl
theorem se_X12_borrowerOf : Cond.selects RX12 yX12_borrowerOf yX12_borrowerOf ∈ TB := TB_sel 21 (by decide +kernel) rfl
theorem co_X12_borrowerOf : Cond.code yX12_borrowerOf cX12_borrowerOf 3 (some .int) ∈ TB := TB_tab 876 (by decide +kernel) rfl
theorem im_X12_onSide : Cond.instanceMethod yX12_onSide ∈ TB := TB_tab 871 (by decide +kernel) rfl
theorem se_X12_onSide : Cond.selects RX12 yX12_onSide yX12_onSide ∈ TB := TB_sel 20 (by decide +kernel) rfl
theorem co_X12_onSide : Cond.code yX12_onSide cX12_onSide 3 (some .int) ∈ TB := TB_tab 872 (by decide +kernel) rfl
theorem im_X12_hasToDo : Cond.instanceMethod yX12_hasToDo ∈ TB := TB_tab 935 (by decide +kernel) rfl
theorem se_X12_hasToDo : Cond.selects RX12 yX12_hasToDo yX12_hasToDo ∈ TB := TB_sel 31 (by decide +kernel) rfl
theorem co_X12_hasToDo : Cond.code yX12_hasToDo cX12_hasToDo 5 (some .boolean) ∈ TB := TB_tab 936 (by decide +kernel) rfl
theorem im_X12_priceOf : Cond.instanceMethod yX12_priceOf ∈ TB := TB_tab 887 (by decide +kernel) rfl
theorem se_X12_priceOf : Cond.selects RX12 yX12_priceOf yX12_priceOf ∈ TB := TB_sel 24 (by decide +kernel) rfl
theorem co_X12_priceOf : Cond.code yX12_priceOf cX12_priceOf 6 (some .int) ∈ TB := TB_tab 888 (by decide +kernel) rfl
theorem im_X12_tell : Cond.instanceMethod yX12_tell ∈ TB := TB_tab 867 (by decide +kernel) rfl
theorem se_X12_tell : Cond.selects RX12 yX12_tell yX12_tell ∈ TB := TB_sel 19 (by decide +kernel) rfl
theorem co_X12_tell : Cond.code yX12_tell cX12_tell 3 (some .int) ∈ TB := TB_tab 868 (by decide +kernel) rfl
theorem im_X12_about : Cond.instanceMethod yX12_about ∈ TB := TB_tab 858 (by decide +kernel) rfl
theorem se_X12_about : Cond.selects RX12 yX12_about yX12_about ∈ TB := TB_tab 859 (by decide +kernel) rfl
theorem co_X12_about : Cond.code yX12_about cX12_about 3 (some .int) ∈ TB := TB_tab 860 (by decide +kernel) rfl
theorem im_X12_as : Cond.instanceMethod yX12_as ∈ TB := TB_tab 890 (by decide +kernel) rfl
theorem se_X12_as : Cond.selects RX12 yX12_as yX12_as ∈ TB := TB_tab 891 (by decide +kernel) rfl
theorem co_X12_as : Cond.code yX12_as cX12_as 5 (some .int) ∈ TB := TB_tab 892 (by decide +kernel) rfl
theorem im_X12_sidesOf : Cond.instanceMethod yX12_sidesOf ∈ TB := TB_tab 907 (by decide +kernel) rfl
theorem se_X12_sidesOf : Cond.selects RX12 yX12_sidesOf yX12_sidesOf ∈ TB := TB_sel 26 (by decide +kernel) rfl
theorem co_X12_sidesOf : Cond.code yX12_sidesOf cX12_sidesOf 4 (some .int) ∈ TB := TB_tab 908 (by decide +kernel) rfl
theorem im_X12_harmsBy : Cond.instanceMethod yX12_harmsBy ∈ TB := TB_tab 911 (by decide +kernel) rfl
theorem se_X12_harmsBy : Cond.selects RX12 yX12_harmsBy yX12_harmsBy ∈ TB := TB_sel 27 (by decide +kernel) rfl
theorem co_X12_harmsBy : Cond.code yX12_harmsBy cX12_harmsBy 5 (some .int) ∈ TB := TB_tab 912 (by decide +kernel) rfl
theorem im_X12_tellMan : Cond.instanceMethod yX12_tellMan ∈ TB := TB_tab 903 (by decide +kernel) rfl
theorem se_X12_tellMan : Cond.selects RX12 yX12_tellMan yX12_tellMan ∈ TB := TB_sel 25 (by decide +kernel) rfl
theorem co_X12_tellMan : Cond.code yX12_tellMan cX12_tellMan 3 (some .int) ∈ TB := TB_tab 904 (by decide +kernel) rfl
theorem im_X12_person : Cond.instanceMethod yX12_person ∈ TB := TB_tab 895 (by decide +kernel) rfl
theorem se_X12_person : Cond.selects RX12 yX12_person yX12_person ∈ TB := TB_tab 896 (by decide +kernel) rfl
theorem co_X12_person : Cond.code yX12_person cX12_person 3 (some .int) ∈ TB := TB_tab 897 (by decide +kernel) rfl
theorem im_X12_heir : Cond.instanceMethod yX12_heir ∈ TB := TB_tab 914 (by decide +kernel) rfl
theorem se_X12_heir : Cond.selects RX12 yX12_heir yX12_heir ∈ TB := TB_tab 915 (by decide +kernel) rfl
theorem co_X12_heir : Cond.code yX12_heir cX12_heir 4 (some .int) ∈ TB := TB_tab 916 (by decide +kernel) rfl
theorem sa_X12_capped : Cond.static yX12_capped ∈ TB := TB_tab 942 (by decide +kernel) rfl
theorem co_X12_capped : Cond.code yX12_capped cX12_capped 1 (some .int) ∈ TB := TB_tab 943 (by decide +kernel) rfl
theorem im_X12_canBuy : Cond.instanceMethod yX12_canBuy ∈ TB := TB_tab 931 (by decide +kernel) rfl
theorem se_X12_canBuy : Cond.selects RX12 yX12_canBuy yX12_canBuy ∈ TB := TB_sel 30 (by decide +kernel) rfl
theorem co_X12_canBuy : Cond.code yX12_canBuy cX12_canBuy 4 (some .boolean) ∈ TB := TB_tab 932 (by decide +kernel) rfl
theorem im_X12_bought : Cond.instanceMethod yX12_bought ∈ TB := TB_tab 939 (by decide +kernel) rfl
theorem se_X12_bought : Cond.selects RX12 yX12_bought yX12_bought ∈ TB := TB_sel 32 (by decide +kernel) rfl
theorem co_X12_bought : Cond.code yX12_bought cX12_bought 6 (some .int) ∈ TB := TB_tab 940 (by decide +kernel) rfl
theorem im_X12_buy : Cond.instanceMethod yX12_buy ∈ TB := TB_tab 926 (by decide +kernel) rfl
theorem se_X12_buy : Cond.selects RX12 yX12_buy yX12_buy ∈ TB := TB_tab 927 (by decide +kernel) rfl
theorem co_X12_buy : Cond.code yX12_buy cX12_buy 4 (some .int) ∈ TB := TB_tab 928 (by decide +kernel) rfl
theorem im_X12_lend : Cond.instanceMethod yX12_lend ∈ TB := TB_tab 945 (by decide +kernel) rfl
theorem se_X12_lend : Cond.selects RX12 yX12_lend yX12_lend ∈ TB := TB_tab 946 (by decide +kernel) rfl
theorem co_X12_lend : Cond.code yX12_lend cX12_lend 6 (some .int) ∈ TB := TB_tab 947 (by decide +kernel) rfl
theorem im_X12_struckMany : Cond.instanceMethod yX12_struckMany ∈ TB := TB_tab 954 (by decide +kernel) rfl
theorem se_X12_struckMany : Cond.selects RX12 yX12_struckMany yX12_struckMany ∈ TB := TB_sel 33 (by decide +kernel) rfl
theorem co_X12_struckMany : Cond.code yX12_struckMany cX12_struckMany 3 (some .int) ∈ TB := TB_tab 955 (by decide +kernel) rfl
theorem im_X12_peace : Cond.instanceMethod yX12_peace ∈ TB := TB_tab 949 (by decide +kernel) rfl
theorem se_X12_peace : Cond.selects RX12 yX12_peace yX12_peace ∈ TB := TB_tab 950 (by decide +kernel) rfl
theorem co_X12_peace : Cond.code yX12_peace cX12_peace 5 (some .int) ∈ TB := TB_tab 951 (by decide +kernel) rfl
theorem im_X12_heirOf : Cond.instanceMethod yX12_heirOf ∈ TB := TB_tab 966 (by decide +kernel) rfl
theorem se_X12_heirOf : Cond.selects RX12 yX12_heirOf yX12_heirOf ∈ TB := TB_sel 35 (by decide +kernel) rfl
theorem co_X12_heirOf : Cond.code yX12_heirOf cX12_heirOf 4 (some .int) ∈ TB := TB_tab 967 (by decide +kernel) rfl
theorem im_X12_died : Cond.instanceMethod yX12_died ∈ TB := TB_tab 962 (by decide +kernel) rfl
theorem se_X12_died : Cond.selects RX12 yX12_died yX12_died ∈ TB := TB_sel 34 (by decide +kernel) rfl
theorem co_X12_died : Cond.code yX12_died cX12_died 8 (some .int) ∈ TB := TB_tab 963 (by decide +kernel) rfl
theorem im_X12_death : Cond.instanceMethod yX12_death ∈ TB := TB_tab 957 (by decide +kernel) rfl
theorem se_X12_death : Cond.selects RX12 yX12_death yX12_death ∈ TB := TB_tab 958 (by decide +kernel) rfl
theorem co_X12_death : Cond.code yX12_death cX12_death 2 (some .int) ∈ TB := TB_tab 959 (by decide +kernel) rfl
theorem im_X12_areOn : Cond.instanceMethod yX12_areOn ∈ TB := TB_tab 981 (by decide +kernel) rfl
theorem se_X12_areOn : Cond.selects RX12 yX12_areOn yX12_areOn ∈ TB := TB_sel 37 (by decide +kernel) rfl
theorem co_X12_areOn : Cond.code yX12_areOn cX12_areOn 4 (some .boolean) ∈ TB := TB_tab 982 (by decide +kernel) rfl
theorem im_X12_harmOf : Cond.instanceMethod yX12_harmOf ∈ TB := TB_tab 977 (by decide +kernel) rfl
theorem se_X12_harmOf : Cond.selects RX12 yX12_harmOf yX12_harmOf ∈ TB := TB_sel 36 (by decide +kernel) rfl
theorem co_X12_harmOf : Cond.code yX12_harmOf cX12_harmOf 6 (some .int) ∈ TB := TB_tab 978 (by decide +kernel) rfl
theorem im_X12_mayHarm : Cond.instanceMethod yX12_mayHarm ∈ TB := TB_tab 969 (by decide +kernel) rfl
theorem se_X12_mayHarm : Cond.selects RX12 yX12_mayHarm yX12_mayHarm ∈ TB := TB_tab 970 (by decide +kernel) rfl
theorem co_X12_mayHarm : Cond.code yX12_mayHarm cX12_mayHarm 3 (some .int) ∈ TB := TB_tab 971 (by decide +kernel) rfl
theorem im_X12_harm : Cond.instanceMethod yX12_harm ∈ TB := TB_tab 984 (by decide +kernel) rfl
theorem se_X12_harm : Cond.selects RX12 yX12_harm yX12_harm ∈ TB := TB_tab 985 (by decide +kernel) rfl
theorem co_X12_harm : Cond.code yX12_harm cX12_harm 4 (some .int) ∈ TB := TB_tab 986 (by decide +kernel) rfl
theorem im_X12_ended : Cond.instanceMethod yX12_ended ∈ TB := TB_tab 993 (by decide +kernel) rfl
theorem se_X12_ended : Cond.selects RX12 yX12_ended yX12_ended ∈ TB := TB_sel 38 (by decide +kernel) rfl
theorem co_X12_ended : Cond.code yX12_ended cX12_ended 4 (some .int) ∈ TB := TB_tab 994 (by decide +kernel) rfl
theorem im_X12_season : Cond.instanceMethod yX12_season ∈ TB := TB_tab 988 (by decide +kernel) rfl
theorem se_X12_season : Cond.selects RX12 yX12_season yX12_season ∈ TB := TB_tab 989 (by decide +kernel) rfl
theorem co_X12_season : Cond.code yX12_season cX12_season 1 (some .int) ∈ TB := TB_tab 990 (by decide +kernel) rfl
theorem sa_X12_copy : Cond.static yX12_copy ∈ TB := TB_tab 1004 (by decide +kernel) rfl
theorem co_X12_copy : Cond.code yX12_copy cX12_copy 3 none ∈ TB := TB_tab 1005 (by decide +kernel) rfl
theorem im_X12_save : Cond.instanceMethod yX12_save ∈ TB := TB_tab 1001 (by decide +kernel) rfl
theorem se_X12_save : Cond.selects RX12 yX12_save yX12_save ∈ TB := TB_sel 39 (by decide +kernel) rfl
theorem co_X12_save : Cond.code yX12_save cX12_save 1 none ∈ TB := TB_tab 1002 (by decide +kernel) rfl
theorem im_X12_layBack : Cond.instanceMethod yX12_layBack ∈ TB := TB_tab 1016 (by decide +kernel) rfl
theorem se_X12_layBack : Cond.selects RX12 yX12_layBack yX12_layBack ∈ TB := TB_sel 42 (by decide +kernel) rfl
theorem co_X12_layBack : Cond.code yX12_layBack cX12_layBack 1 none ∈ TB := TB_tab 1017 (by decide +kernel) rfl
theorem im_X12_getsOn : Cond.instanceMethod yX12_getsOn ∈ TB := TB_tab 1012 (by decide +kernel) rfl
theorem se_X12_getsOn : Cond.selects RX12 yX12_getsOn yX12_getsOn ∈ TB := TB_sel 41 (by decide +kernel) rfl
theorem co_X12_getsOn : Cond.code yX12_getsOn cX12_getsOn 4 (some .int) ∈ TB := TB_tab 1013 (by decide +kernel) rfl
theorem im_X12_bothOn : Cond.instanceMethod yX12_bothOn ∈ TB := TB_tab 1008 (by decide +kernel) rfl
theorem se_X12_bothOn : Cond.selects RX12 yX12_bothOn yX12_bothOn ∈ TB := TB_sel 40 (by decide +kernel) rfl
theorem co_X12_bothOn : Cond.code yX12_bothOn cX12_bothOn 7 (some .int) ∈ TB := TB_tab 1009 (by decide +kernel) rfl
theorem im_X12_comeBy : Cond.instanceMethod yX12_comeBy ∈ TB := TB_tab 996 (by decide +kernel) rfl
theorem se_X12_comeBy : Cond.selects RX12 yX12_comeBy yX12_comeBy ∈ TB := TB_tab 997 (by decide +kernel) rfl
theorem co_X12_comeBy : Cond.code yX12_comeBy cX12_comeBy 10 (some .int) ∈ TB := TB_tab 998 (by decide +kernel) rfl
theorem im_X12_feudsOf : Cond.instanceMethod yX12_feudsOf ∈ TB := TB_tab 1028 (by decide +kernel) rfl
theorem se_X12_feudsOf : Cond.selects RX12 yX12_feudsOf yX12_feudsOf ∈ TB := TB_sel 44 (by decide +kernel) rfl
theorem co_X12_feudsOf : Cond.code yX12_feudsOf cX12_feudsOf 5 (some .int) ∈ TB := TB_tab 1029 (by decide +kernel) rfl
theorem im_X12_marryOf : Cond.instanceMethod yX12_marryOf ∈ TB := TB_tab 1024 (by decide +kernel) rfl
theorem se_X12_marryOf : Cond.selects RX12 yX12_marryOf yX12_marryOf ∈ TB := TB_sel 43 (by decide +kernel) rfl
theorem co_X12_marryOf : Cond.code yX12_marryOf cX12_marryOf 9 (some .int) ∈ TB := TB_tab 1025 (by decide +kernel) rfl
theorem im_X12_marry : Cond.instanceMethod yX12_marry ∈ TB := TB_tab 1019 (by decide +kernel) rfl
theorem se_X12_marry : Cond.selects RX12 yX12_marry yX12_marry ∈ TB := TB_tab 1020 (by decide +kernel) rfl
theorem co_X12_marry : Cond.code yX12_marry cX12_marry 2 (some .int) ∈ TB := TB_tab 1021 (by decide +kernel) rfl
theorem im_X12_wills : Cond.instanceMethod yX12_wills ∈ TB := TB_tab 1031 (by decide +kernel) rfl
theorem se_X12_wills : Cond.selects RX12 yX12_wills yX12_wills ∈ TB := TB_tab 1032 (by decide +kernel) rfl
theorem co_X12_wills : Cond.code yX12_wills cX12_wills 5 (some .int) ∈ TB := TB_tab 1033 (by decide +kernel) rfl
theorem sa_X12_term : Cond.static yX12_term ∈ TB := TB_tab 1046 (by decide +kernel) rfl
theorem co_X12_term : Cond.code yX12_term cX12_term 11 (some .long) ∈ TB := TB_tab 1047 (by decide +kernel) rfl
theorem im_X12_left : Cond.instanceMethod yX12_left ∈ TB := TB_tab 1036 (by decide +kernel) rfl
theorem se_X12_left : Cond.selects RX12 yX12_left yX12_left ∈ TB := TB_tab 1037 (by decide +kernel) rfl
theorem co_X12_left : Cond.code yX12_left cX12_left 16 (some .long) ∈ TB := TB_tab 1038 (by decide +kernel) rfl
theorem im_X12_register : Cond.instanceMethod yX12_register ∈ TB := TB_tab 1049 (by decide +kernel) rfl
theorem se_X12_register : Cond.selects RX12 yX12_register yX12_register ∈ TB := TB_tab 1050 (by decide +kernel) rfl
theorem co_X12_register : Cond.code yX12_register cX12_register 3 (some .int) ∈ TB := TB_tab 1051 (by decide +kernel) rfl
theorem im_X12_forget : Cond.instanceMethod yX12_forget ∈ TB := TB_tab 1053 (by decide +kernel) rfl
theorem se_X12_forget : Cond.selects RX12 yX12_forget yX12_forget ∈ TB := TB_tab 1054 (by decide +kernel) rfl
theorem co_X12_forget : Cond.code yX12_forget cX12_forget 2 (some .int) ∈ TB := TB_tab 1055 (by decide +kernel) rfl
theorem im_X12_isLapsedBy : Cond.instanceMethod yX12_isLapsedBy ∈ TB := TB_tab 1066 (by decide +kernel) rfl
theorem se_X12_isLapsedBy : Cond.selects RX12 yX12_isLapsedBy yX12_isLapsedBy ∈ TB := TB_sel 46 (by decide +kernel) rfl
theorem co_X12_isLapsedBy : Cond.code yX12_isLapsedBy cX12_isLapsedBy 7 (some .boolean) ∈ TB := TB_tab 1067 (by decide +kernel) rfl
theorem im_X12_lapsedOf : Cond.instanceMethod yX12_lapsedOf ∈ TB := TB_tab 1062 (by decide +kernel) rfl
theorem se_X12_lapsedOf : Cond.selects RX12 yX12_lapsedOf yX12_lapsedOf ∈ TB := TB_sel 45 (by decide +kernel) rfl
theorem co_X12_lapsedOf : Cond.code yX12_lapsedOf cX12_lapsedOf 6 (some .int) ∈ TB := TB_tab 1063 (by decide +kernel) rfl
theorem im_X12_lapsed : Cond.instanceMethod yX12_lapsed ∈ TB := TB_tab 1057 (by decide +kernel) rfl
theorem se_X12_lapsed : Cond.selects RX12 yX12_lapsed yX12_lapsed ∈ TB := TB_tab 1058 (by decide +kernel) rfl
theorem co_X12_lapsed : Cond.code yX12_lapsed cX12_lapsed 2 (some .int) ∈ TB := TB_tab 1059 (by decide +kernel) rfl
theorem im_X12_draw : Cond.instanceMethod yX12_draw ∈ TB := TB_tab 1076 (by decide +kernel) rfl
theorem se_X12_draw : Cond.selects RX12 yX12_draw yX12_draw ∈ TB := TB_sel 47 (by decide +kernel) rfl
theorem co_X12_draw : Cond.code yX12_draw cX12_draw 2 (some .int) ∈ TB := TB_tab 1077 (by decide +kernel) rfl
theorem im_X12_aliveMany : Cond.instanceMethod yX12_aliveMany ∈ TB := TB_tab 1084 (by decide +kernel) rfl
theorem se_X12_aliveMany : Cond.selects RX12 yX12_aliveMany yX12_aliveMany ∈ TB := TB_sel 48 (by decide +kernel) rfl
theorem co_X12_aliveMany : Cond.code yX12_aliveMany cX12_aliveMany 3 (some .int) ∈ TB := TB_tab 1085 (by decide +kernel) rfl
theorem im_X12_openMany : Cond.instanceMethod yX12_openMany ∈ TB := TB_tab 1088 (by decide +kernel) rfl
theorem se_X12_openMany : Cond.selects RX12 yX12_openMany yX12_openMany ∈ TB := TB_sel 49 (by decide +kernel) rfl
theorem co_X12_openMany : Cond.code yX12_openMany cX12_openMany 3 (some .int) ∈ TB := TB_tab 1089 (by decide +kernel) rfl
theorem im_X12_years : Cond.instanceMethod yX12_years ∈ TB := TB_tab 1069 (by decide +kernel) rfl
theorem se_X12_years : Cond.selects RX12 yX12_years yX12_years ∈ TB := TB_tab 1070 (by decide +kernel) rfl
theorem co_X12_years : Cond.code yX12_years cX12_years 10 (some .int) ∈ TB := TB_tab 1071 (by decide +kernel) rfl
theorem im_X12_image : Cond.instanceMethod yX12_image ∈ TB := TB_tab 1091 (by decide +kernel) rfl
theorem se_X12_image : Cond.selects RX12 yX12_image yX12_image ∈ TB := TB_tab 1092 (by decide +kernel) rfl
theorem co_X12_image : Cond.code yX12_image cX12_image 1 (some .int) ∈ TB := TB_tab 1093 (by decide +kernel) rfl
theorem im_X12_restore : Cond.instanceMethod yX12_restore ∈ TB := TB_tab 1095 (by decide +kernel) rfl
theorem se_X12_restore : Cond.selects RX12 yX12_restore yX12_restore ∈ TB := TB_tab 1096 (by decide +kernel) rfl
theorem co_X12_restore : Cond.code yX12_restore cX12_restore 1 (some .int) ∈ TB := TB_tab 1097 (by decide +kernel) rfl
theorem im_X12_lentMany : Cond.instanceMethod yX12_lentMany ∈ TB := TB_tab 1108 (by decide +kernel) rfl
theorem se_X12_lentMany : Cond.selects RX12 yX12_lentMany yX12_lentMany ∈ TB := TB_sel 51 (by decide +kernel) rfl
theorem co_X12_lentMany : Cond.code yX12_lentMany cX12_lentMany 3 (some .int) ∈ TB := TB_tab 1109 (by decide +kernel) rfl
theorem im_X12_countOf : Cond.instanceMethod yX12_countOf ∈ TB := TB_tab 1104 (by decide +kernel) rfl
theorem se_X12_countOf : Cond.selects RX12 yX12_countOf yX12_countOf ∈ TB := TB_sel 50 (by decide +kernel) rfl
theorem co_X12_countOf : Cond.code yX12_countOf cX12_countOf 2 (some .int) ∈ TB := TB_tab 1105 (by decide +kernel) rfl
theorem im_X12_count : Cond.instanceMethod yX12_count ∈ TB := TB_tab 1099 (by decide +kernel) rfl
theorem se_X12_count : Cond.selects RX12 yX12_count yX12_count ∈ TB := TB_tab 1100 (by decide +kernel) rfl
theorem co_X12_count : Cond.code yX12_count cX12_count 2 (some .int) ∈ TB := TB_tab 1101 (by decide +kernel) rfl
theorem im_X12_say : Cond.instanceMethod yX12_say ∈ TB := TB_tab 1117 (by decide +kernel) rfl
theorem se_X12_say : Cond.selects RX12 yX12_say yX12_say ∈ TB := TB_sel 52 (by decide +kernel) rfl
theorem co_X12_say : Cond.code yX12_say cX12_say 3 none ∈ TB := TB_tab 1118 (by decide +kernel) rfl
theorem im_X12_digest : Cond.instanceMethod yX12_digest ∈ TB := TB_tab 1111 (by decide +kernel) rfl
theorem se_X12_digest : Cond.selects RX12 yX12_digest yX12_digest ∈ TB := TB_tab 1112 (by decide +kernel) rfl
theorem co_X12_digest : Cond.code yX12_digest cX12_digest 3 (some .long) ∈ TB := TB_tab 1113 (by decide +kernel) rfl
theorem sa_J6_bitCount_0f7a4 : Cond.static yJ6_bitCount_0f7a4 ∈ TB := TB_tab 402 (by decide +kernel) rfl
theorem co_J6_bitCount_0f7a4 : Cond.code yJ6_bitCount_0f7a4 cJ6_bitCount_0f7a4 1 (some .int) ∈ TB := TB_tab 403 (by decide +kernel) rfl
theorem sa_J9_max_7cf53 : Cond.static yJ9_max_7cf53 ∈ TB := TB_tab 601 (by decide +kernel) rfl
theorem co_J9_max_7cf53 : Cond.code yJ9_max_7cf53 cJ9_max_7cf53 2 (some .int) ∈ TB := TB_tab 602 (by decide +kernel) rfl
theorem sa_J9_min_7cf53 : Cond.static yJ9_min_7cf53 ∈ TB := TB_tab 450 (by decide +kernel) rfl
theorem co_J9_min_7cf53 : Cond.code yJ9_min_7cf53 cJ9_min_7cf53 2 (some .int) ∈ TB := TB_tab 451 (by decide +kernel) rfl
theorem sa_J7_fill_d0a16 : Cond.static yJ7_fill_d0a16 ∈ TB := TB_tab 618 (by decide +kernel) rfl
theorem co_J7_fill_d0a16 : Cond.code yJ7_fill_d0a16 cJ7_fill_d0a16 5 none ∈ TB := TB_tab 619 (by decide +kernel) rfl
theorem in_L : Cond.initialized RL ∈ TB := TB_tab 0 (by decide +kernel) rfl
theorem in_X11 : Cond.initialized RX11 ∈ TB := TB_tab 1 (by decide +kernel) rfl
theorem in_X8 : Cond.initialized RX8 ∈ TB := TB_tab 2 (by decide +kernel) rfl
theorem in_X10 : Cond.initialized RX10 ∈ TB := TB_tab 3 (by decide +kernel) rfl
theorem in_X2 : Cond.initialized RX2 ∈ TB := TB_tab 4 (by decide +kernel) rfl
theorem in_X4 : Cond.initialized RX4 ∈ TB := TB_tab 5 (by decide +kernel) rfl
theorem in_X6 : Cond.initialized RX6 ∈ TB := TB_tab 6 (by decide +kernel) rfl
theorem in_X7 : Cond.initialized RX7 ∈ TB := TB_tab 7 (by decide +kernel) rfl
theorem in_X1 : Cond.initialized RX1 ∈ TB := TB_tab 8 (by decide +kernel) rfl
theorem in_X12 : Cond.initialized RX12 ∈ TB := TB_tab 9 (by decide +kernel) rfl
theorem in_X0 : Cond.initialized RX0 ∈ TB := TB_tab 10 (by decide +kernel) rfl
theorem in_X5 : Cond.initialized RX5 ∈ TB := TB_tab 11 (by decide +kernel) rfl
theorem in_X3 : Cond.initialized RX3 ∈ TB := TB_tab 12 (by decide +kernel) rfl
theorem in_X9 : Cond.initialized RX9 ∈ TB := TB_tab 13 (by decide +kernel) rfl
theorem in_J6 : Cond.initialized RJ6 ∈ TB := TB_tab 14 (by decide +kernel) rfl
theorem in_J9 : Cond.initialized RJ9 ∈ TB := TB_tab 15 (by decide +kernel) rfl
theorem in_J10 : Cond.initialized RJ10 ∈ TB := TB_tab 16 (by decide +kernel) rfl
theorem in_J7 : Cond.initialized RJ7 ∈ TB := TB_tab 17 (by decide +kernel) rfl
theorem cl_L_7 : Cond.classLink RL 7 RX11 ∈ TB := TB_tab 18 (by decide +kernel) rfl
theorem ia_X11 : Cond.instantiable RX11 10 ∈ TB := TB_tab 19 (by decide +kernel) rfl
theorem cl_X11_7 : Cond.classLink RX11 7 RX8 ∈ TB := TB_tab 26 (by decide +kernel) rfl
theorem ia_X8 : Cond.instantiable RX8 4 ∈ TB := TB_tab 27 (by decide +kernel) rfl
theorem ac_int : Cond.arrayClass .int ∈ TB := TB_tab 48 (by decide +kernel) rfl
theorem cl_X11_16 : Cond.classLink RX11 16 RX10 ∈ TB := TB_tab 49 (by decide +kernel) rfl
theorem ia_X10 : Cond.instantiable RX10 3 ∈ TB := TB_tab 50 (by decide +kernel) rfl
theorem cl_X10_9 : Cond.classLink RX10 9 RX2 ∈ TB := TB_tab 55 (by decide +kernel) rfl
theorem ia_X2 : Cond.instantiable RX2 1 ∈ TB := TB_tab 57 (by decide +kernel) rfl
theorem cl_X11_23 : Cond.classLink RX11 23 RX4 ∈ TB := TB_tab 88 (by decide +kernel) rfl
theorem ia_X4 : Cond.instantiable RX4 13 ∈ TB := TB_tab 89 (by decide +kernel) rfl
theorem ac_boolean : Cond.arrayClass .boolean ∈ TB := TB_tab 150 (by decide +kernel) rfl
theorem cl_X11_38 : Cond.classLink RX11 38 RX6 ∈ TB := TB_tab 151 (by decide +kernel) rfl
theorem ia_X6 : Cond.instantiable RX6 4 ∈ TB := TB_tab 152 (by decide +kernel) rfl
theorem cl_X11_45 : Cond.classLink RX11 45 RX7 ∈ TB := TB_tab 172 (by decide +kernel) rfl
theorem ia_X7 : Cond.instantiable RX7 2 ∈ TB := TB_tab 173 (by decide +kernel) rfl
theorem ac_long : Cond.arrayClass .long ∈ TB := TB_tab 185 (by decide +kernel) rfl
theorem cl_X11_52 : Cond.classLink RX11 52 RX1 ∈ TB := TB_tab 186 (by decide +kernel) rfl
theorem ia_X1 : Cond.instantiable RX1 1 ∈ TB := TB_tab 187 (by decide +kernel) rfl
theorem cl_X10_44 : Cond.classLink RX10 44 RX0 ∈ TB := TB_tab 284 (by decide +kernel) rfl
theorem ia_X0 : Cond.instantiable RX0 1 ∈ TB := TB_tab 285 (by decide +kernel) rfl
theorem su_X0_X2 : Cond.superclass RX0 RX2 ∈ TB := TB_tab 291 (by decide +kernel) rfl
theorem cl_X10_47 : Cond.classLink RX10 47 RX5 ∈ TB := TB_tab 292 (by decide +kernel) rfl
theorem ia_X5 : Cond.instantiable RX5 1 ∈ TB := TB_tab 293 (by decide +kernel) rfl
theorem su_X5_X2 : Cond.superclass RX5 RX2 ∈ TB := TB_tab 299 (by decide +kernel) rfl
theorem cl_X10_50 : Cond.classLink RX10 50 RX3 ∈ TB := TB_tab 300 (by decide +kernel) rfl
theorem ia_X3 : Cond.instantiable RX3 1 ∈ TB := TB_tab 301 (by decide +kernel) rfl
theorem su_X3_X2 : Cond.superclass RX3 RX2 ∈ TB := TB_tab 307 (by decide +kernel) rfl
theorem cl_X10_53 : Cond.classLink RX10 53 RX9 ∈ TB := TB_tab 308 (by decide +kernel) rfl
theorem ia_X9 : Cond.instantiable RX9 1 ∈ TB := TB_tab 309 (by decide +kernel) rfl
theorem su_X9_X3 : Cond.superclass RX9 RX3 ∈ TB := TB_tab 315 (by decide +kernel) rfl
theorem sm_X2_kind : Cond.sameMethod RX2 RX2 "kind" "()I" ∈ TB := TB_tab 328 (by decide +kernel) rfl
theorem sx_X0_X2_kind : Cond.selects RX0 yX2_kind yX0_kind ∈ TB := TB_tab 329 (by decide +kernel) rfl
theorem sx_X3_X2_kind : Cond.selects RX3 yX2_kind yX3_kind ∈ TB := TB_tab 332 (by decide +kernel) rfl
theorem sx_X5_X2_kind : Cond.selects RX5 yX2_kind yX5_kind ∈ TB := TB_tab 335 (by decide +kernel) rfl
theorem sx_X9_X2_kind : Cond.selects RX9 yX2_kind yX9_kind ∈ TB := TB_tab 338 (by decide +kernel) rfl
theorem sm_X2_fullPrice : Cond.sameMethod RX2 RX2 "fullPrice" "()I" ∈ TB := TB_tab 361 (by decide +kernel) rfl
theorem sx_X0_X2_fullPrice : Cond.selects RX0 yX2_fullPrice yX2_fullPrice ∈ TB := TB_tab 362 (by decide +kernel) rfl
theorem sx_X3_X2_fullPrice : Cond.selects RX3 yX2_fullPrice yX3_fullPrice ∈ TB := TB_tab 363 (by decide +kernel) rfl
theorem sx_X5_X2_fullPrice : Cond.selects RX5 yX2_fullPrice yX5_fullPrice ∈ TB := TB_tab 366 (by decide +kernel) rfl
theorem sx_X9_X2_fullPrice : Cond.selects RX9 yX2_fullPrice yX9_fullPrice ∈ TB := TB_tab 369 (by decide +kernel) rfl
theorem cl_X11_312 : Cond.classLink RX11 312 RX0 ∈ TB := TB_tab 385 (by decide +kernel) rfl
theorem cl_X11_314 : Cond.classLink RX11 314 RX5 ∈ TB := TB_tab 386 (by decide +kernel) rfl
theorem cl_X11_316 : Cond.classLink RX11 316 RX3 ∈ TB := TB_tab 387 (by decide +kernel) rfl
theorem cl_X11_318 : Cond.classLink RX11 318 RX9 ∈ TB := TB_tab 388 (by decide +kernel) rfl
theorem ki_J6_265 : Cond.constant RJ6 265 (Int32.ofInt (1431655765)) ∈ TB := TB_tab 404 (by decide +kernel) rfl
theorem ki_J6_266 : Cond.constant RJ6 266 (Int32.ofInt (858993459)) ∈ TB := TB_tab 405 (by decide +kernel) rfl
theorem ki_J6_267 : Cond.constant RJ6 267 (Int32.ofInt (252645135)) ∈ TB := TB_tab 406 (by decide +kernel) rfl
theorem sm_X2_isLendable : Cond.sameMethod RX2 RX2 "isLendable" "()Z" ∈ TB := TB_tab 463 (by decide +kernel) rfl
theorem sx_X0_X2_isLendable : Cond.selects RX0 yX2_isLendable yX0_isLendable ∈ TB := TB_tab 464 (by decide +kernel) rfl
theorem sx_X3_X2_isLendable : Cond.selects RX3 yX2_isLendable yX3_isLendable ∈ TB := TB_tab 467 (by decide +kernel) rfl
theorem sx_X5_X2_isLendable : Cond.selects RX5 yX2_isLendable yX2_isLendable ∈ TB := TB_tab 470 (by decide +kernel) rfl
theorem sx_X9_X2_isLendable : Cond.selects RX9 yX2_isLendable yX3_isLendable ∈ TB := TB_tab 471 (by decide +kernel) rfl
theorem sm_X2_mostOpenAtPeace : Cond.sameMethod RX2 RX2 "mostOpenAtPeace" "()I" ∈ TB := TB_tab 484 (by decide +kernel) rfl
theorem sx_X0_X2_mostOpenAtPeace : Cond.selects RX0 yX2_mostOpenAtPeace yX2_mostOpenAtPeace ∈ TB := TB_tab 485 (by decide +kernel) rfl
theorem sx_X3_X2_mostOpenAtPeace : Cond.selects RX3 yX2_mostOpenAtPeace yX2_mostOpenAtPeace ∈ TB := TB_tab 486 (by decide +kernel) rfl
theorem sx_X5_X2_mostOpenAtPeace : Cond.selects RX5 yX2_mostOpenAtPeace yX5_mostOpenAtPeace ∈ TB := TB_tab 487 (by decide +kernel) rfl
theorem sx_X9_X2_mostOpenAtPeace : Cond.selects RX9 yX2_mostOpenAtPeace yX2_mostOpenAtPeace ∈ TB := TB_tab 490 (by decide +kernel) rfl
theorem kl_X11_231 : Cond.constantLong RX11 231 (Int64.ofInt (-102)) ∈ TB := TB_tab 611 (by decide +kernel) rfl
theorem kl_X11_233 : Cond.constantLong RX11 233 (Int64.ofInt (-103)) ∈ TB := TB_tab 612 (by decide +kernel) rfl
theorem kl_X7_50 : Cond.constantLong RX7 50 (Int64.ofInt (100)) ∈ TB := TB_tab 620 (by decide +kernel) rfl
theorem kl_X7_52 : Cond.constantLong RX7 52 (Int64.ofInt (10)) ∈ TB := TB_tab 621 (by decide +kernel) rfl
theorem kl_X1_13 : Cond.constantLong RX1 13 (Int64.ofInt (1103515245)) ∈ TB := TB_tab 678 (by decide +kernel) rfl
theorem kl_X1_15 : Cond.constantLong RX1 15 (Int64.ofInt (12345)) ∈ TB := TB_tab 679 (by decide +kernel) rfl
theorem kl_X1_17 : Cond.constantLong RX1 17 (Int64.ofInt (2147483647)) ∈ TB := TB_tab 680 (by decide +kernel) rfl
theorem ki_X1_19 : Cond.constant RX1 19 (Int32.ofInt (65536)) ∈ TB := TB_tab 681 (by decide +kernel) rfl
theorem kl_X11_273 : Cond.constantLong RX11 273 (Int64.ofInt (751)) ∈ TB := TB_tab 711 (by decide +kernel) rfl
theorem kl_X11_301 : Cond.constantLong RX11 301 (Int64.ofInt (31)) ∈ TB := TB_tab 720 (by decide +kernel) rfl
theorem cl_L_10 : Cond.classLink RL 10 RX12 ∈ TB := TB_tab 735 (by decide +kernel) rfl
theorem ia_X12 : Cond.instantiable RX12 26 ∈ TB := TB_tab 736 (by decide +kernel) rfl
theorem kl_X12_60 : Cond.constantLong RX12 60 (Int64.ofInt (126)) ∈ TB := TB_tab 828 (by decide +kernel) rfl
theorem kl_X12_75 : Cond.constantLong RX12 75 (Int64.ofInt (9)) ∈ TB := TB_tab 848 (by decide +kernel) rfl
theorem kl_X12_77 : Cond.constantLong RX12 77 (Int64.ofInt (5)) ∈ TB := TB_tab 849 (by decide +kernel) rfl
theorem kl_X12_128 : Cond.constantLong RX12 128 (Int64.ofInt (4)) ∈ TB := TB_tab 893 (by decide +kernel) rfl
theorem kl_X12_204 : Cond.constantLong RX12 204 (Int64.ofInt (63)) ∈ TB := TB_tab 1034 (by decide +kernel) rfl
theorem kl_X12_206 : Cond.constantLong RX12 206 (Int64.ofInt (2)) ∈ TB := TB_tab 1039 (by decide +kernel) rfl
theorem kl_X12_208 : Cond.constantLong RX12 208 (Int64.ofInt (8)) ∈ TB := TB_tab 1040 (by decide +kernel) rfl
theorem kl_X12_210 : Cond.constantLong RX12 210 (Int64.ofInt (-102)) ∈ TB := TB_tab 1041 (by decide +kernel) rfl
theorem kl_X12_212 : Cond.constantLong RX12 212 (Int64.ofInt (-103)) ∈ TB := TB_tab 1042 (by decide +kernel) rfl
theorem kl_X12_214 : Cond.constantLong RX12 214 (Int64.ofInt (10)) ∈ TB := TB_tab 1043 (by decide +kernel) rfl
theorem kl_X12_216 : Cond.constantLong RX12 216 (Int64.ofInt (100)) ∈ TB := TB_tab 1044 (by decide +kernel) rfl
theorem kl_X12_238 : Cond.constantLong RX12 238 (Int64.ofInt (60)) ∈ TB := TB_tab 1072 (by decide +kernel) rfl
theorem kl_X12_240 : Cond.constantLong RX12 240 (Int64.ofInt (3)) ∈ TB := TB_tab 1073 (by decide +kernel) rfl
theorem kl_X12_228 : Cond.constantLong RX12 228 (Int64.ofInt (1103515245)) ∈ TB := TB_tab 1078 (by decide +kernel) rfl
theorem kl_X12_233 : Cond.constantLong RX12 233 (Int64.ofInt (12345)) ∈ TB := TB_tab 1079 (by decide +kernel) rfl
theorem kl_X12_235 : Cond.constantLong RX12 235 (Int64.ofInt (2147483647)) ∈ TB := TB_tab 1080 (by decide +kernel) rfl
theorem ki_X12_237 : Cond.constant RX12 237 (Int32.ofInt (65536)) ∈ TB := TB_tab 1081 (by decide +kernel) rfl
theorem kl_X12_269 : Cond.constantLong RX12 269 (Int64.ofInt (751)) ∈ TB := TB_tab 1114 (by decide +kernel) rfl
theorem kl_X12_263 : Cond.constantLong RX12 263 (Int64.ofInt (31)) ∈ TB := TB_tab 1119 (by decide +kernel) rfl
theorem sm_X3_fullPrice : Cond.sameMethod RX3 RX3 "fullPrice" "()I" ∈ TB := TB_tab 1120 (by decide +kernel) rfl
theorem im_objectInit : Cond.instanceMethod Lib.objectInit ∈ TB := TB_tab 24 (by decide +kernel) rfl
theorem co_objectInit : Cond.code Lib.objectInit ⟨#[0xb1]⟩ 1 none ∈ TB := TB_tab 25 (by decide +kernel) rfl
theorem sa_min : Cond.static Lib.Math.min.name ∈ TB := TB_tab 450 (by decide +kernel) rfl
theorem co_min : Cond.code Lib.Math.min.name Lib.Math.min.code 2 (some .int) ∈ TB := TB_tab 451 (by decide +kernel) rfl
theorem sa_max : Cond.static Lib.Math.max.name ∈ TB := TB_tab 601 (by decide +kernel) rfl
theorem co_max : Cond.code Lib.Math.max.name Lib.Math.max.code 2 (some .int) ∈ TB := TB_tab 602 (by decide +kernel) rfl
theorem na_copy : Cond.native arraycopyName ∈ TB := TB_tab 566 (by decide +kernel) rfl
theorem sa_copy : Cond.static arraycopyName ∈ TB := TB_tab 565 (by decide +kernel) rfl
end
section
/-! ===== where the cells are ===== -/
def isFt (tag : Nat) : Prop := tag = 0 ∨ tag = 2 ∨ tag = 3 ∨ tag = 5 ∨ tag = 9
def PSl (S : List zC) : Prop := (∃ (w : Int) (rf : Nat → Option Nat), S[3]? = some (10, w, rf) ∧ rf 0 = some 4 ∧ rf 1 = some 5) ∧ (∃ rf : Nat → Option Nat, S[4]? = some (16, 8, rf) ∧ ∀ k, k < 8 → ∃ (c tag : Nat) (w : Int) (rf2 : Nat → Option Nat), rf k = some c ∧ S[c]? = some (tag, w, rf2) ∧ isFt tag) ∧ (∃ rf : Nat → Option Nat, S[5]? = some (13, 16, rf))
theorem PSl_3 {S : List zC} (h : PSl S) : (∃ (w : Int) (rf : Nat → Option Nat), S[3]? = some (10, w, rf) ∧ rf 0 = some 4 ∧ rf 1 = some 5) := h.1
theorem PSl_4 {S : List zC} (h : PSl S) : (∃ rf : Nat → Option Nat, S[4]? = some (16, 8, rf) ∧ ∀ k, k < 8 → ∃ (c tag : Nat) (w : Int) (rf2 : Nat → Option Nat), rf k = some c ∧ S[c]? = some (tag, w, rf2) ∧ isFt tag) := h.2.1
theorem PSl_5 {S : List zC} (h : PSl S) : (∃ rf : Nat → Option Nat, S[5]? = some (13, 16, rf)) := h.2.2
def PSi (S : List zC) (o : Nat) : Prop := (∃ (w : Int) (rf : Nat → Option Nat), S[o]? = some (4, w, rf) ∧ rf 0 = some 3 ∧ rf 1 = some (o + 1) ∧ rf 2 = some (o + 2) ∧ rf 3 = some (o + 3) ∧ rf 4 = some (o + 4) ∧ rf 5 = some (o + 5) ∧ rf 6 = some (o + 6) ∧ rf 7 = some (o + 7) ∧ rf 8 = some (o + 8) ∧ rf 10 = some (o + 9) ∧ rf 11 = some (o + 10)) ∧ (∃ rf : Nat → Option Nat, S[(o + 1)]? = some (13, 6, rf)) ∧ (∃ rf : Nat → Option Nat, S[(o + 2)]? = some (13, 6, rf)) ∧ (∃ rf : Nat → Option Nat, S[(o + 3)]? = some (14, 6, rf)) ∧ (∃ rf : Nat → Option Nat, S[(o + 4)]? = some (13, 16, rf)) ∧ (∃ rf : Nat → Option Nat, S[(o + 5)]? = some (13, 16, rf)) ∧ (∃ rf : Nat → Option Nat, S[(o + 6)]? = some (14, 8, rf)) ∧ (∃ rf : Nat → Option Nat, S[(o + 7)]? = some (13, 12, rf)) ∧ (∃ rf : Nat → Option Nat, S[(o + 8)]? = some (13, 12, rf)) ∧ (∃ rf : Nat → Option Nat, S[(o + 9)]? = some (13, 8, rf)) ∧ (∃ rf : Nat → Option Nat, S[(o + 10)]? = some (13, 8, rf)) ∧ PSl S
theorem PSi_o {S : List zC} {o : Nat} (h : PSi S o) : (∃ (w : Int) (rf : Nat → Option Nat), S[o]? = some (4, w, rf) ∧ rf 0 = some 3 ∧ rf 1 = some (o + 1) ∧ rf 2 = some (o + 2) ∧ rf 3 = some (o + 3) ∧ rf 4 = some (o + 4) ∧ rf 5 = some (o + 5) ∧ rf 6 = some (o + 6) ∧ rf 7 = some (o + 7) ∧ rf 8 = some (o + 8) ∧ rf 10 = some (o + 9) ∧ rf 11 = some (o + 10)) := h.1
theorem PSi_a1 {S : List zC} {o : Nat} (h : PSi S o) : (∃ rf : Nat → Option Nat, S[(o + 1)]? = some (13, 6, rf)) := h.2.1
theorem PSi_a2 {S : List zC} {o : Nat} (h : PSi S o) : (∃ rf : Nat → Option Nat, S[(o + 2)]? = some (13, 6, rf)) := h.2.2.1
theorem PSi_a3 {S : List zC} {o : Nat} (h : PSi S o) : (∃ rf : Nat → Option Nat, S[(o + 3)]? = some (14, 6, rf)) := h.2.2.2.1
theorem PSi_a4 {S : List zC} {o : Nat} (h : PSi S o) : (∃ rf : Nat → Option Nat, S[(o + 4)]? = some (13, 16, rf)) := h.2.2.2.2.1
theorem PSi_a5 {S : List zC} {o : Nat} (h : PSi S o) : (∃ rf : Nat → Option Nat, S[(o + 5)]? = some (13, 16, rf)) := h.2.2.2.2.2.1
theorem PSi_a6 {S : List zC} {o : Nat} (h : PSi S o) : (∃ rf : Nat → Option Nat, S[(o + 6)]? = some (14, 8, rf)) := h.2.2.2.2.2.2.1
theorem PSi_a7 {S : List zC} {o : Nat} (h : PSi S o) : (∃ rf : Nat → Option Nat, S[(o + 7)]? = some (13, 12, rf)) := h.2.2.2.2.2.2.2.1
theorem PSi_a8 {S : List zC} {o : Nat} (h : PSi S o) : (∃ rf : Nat → Option Nat, S[(o + 8)]? = some (13, 12, rf)) := h.2.2.2.2.2.2.2.2.1
theorem PSi_a9 {S : List zC} {o : Nat} (h : PSi S o) : (∃ rf : Nat → Option Nat, S[(o + 9)]? = some (13, 8, rf)) := h.2.2.2.2.2.2.2.2.2.1
theorem PSi_a10 {S : List zC} {o : Nat} (h : PSi S o) : (∃ rf : Nat → Option Nat, S[(o + 10)]? = some (13, 8, rf)) := h.2.2.2.2.2.2.2.2.2.2.1
theorem PSi_l {S : List zC} {o : Nat} (h : PSi S o) : PSl S := h.2.2.2.2.2.2.2.2.2.2.2
def PSp (S : List zC) : Prop := (∃ (w : Int) (rf : Nat → Option Nat), S[1]? = some (8, w, rf) ∧ rf 0 = some 2) ∧ (∃ rf : Nat → Option Nat, S[2]? = some (13, 40, rf))
theorem PSp_1 {S : List zC} (h : PSp S) : (∃ (w : Int) (rf : Nat → Option Nat), S[1]? = some (8, w, rf) ∧ rf 0 = some 2) := h.1
theorem PSp_2 {S : List zC} (h : PSp S) : (∃ rf : Nat → Option Nat, S[2]? = some (13, 40, rf)) := h.2
def PSk (S : List zC) : Prop := (∃ (w : Int) (rf : Nat → Option Nat), S[47]? = some (6, w, rf) ∧ rf 0 = some 48 ∧ rf 1 = some 49) ∧ (∃ rf : Nat → Option Nat, S[48]? = some (13, 64, rf)) ∧ (∃ rf : Nat → Option Nat, S[49]? = some (13, 36, rf))
theorem PSk_47 {S : List zC} (h : PSk S) : (∃ (w : Int) (rf : Nat → Option Nat), S[47]? = some (6, w, rf) ∧ rf 0 = some 48 ∧ rf 1 = some 49) := h.1
theorem PSk_48 {S : List zC} (h : PSk S) : (∃ rf : Nat → Option Nat, S[48]? = some (13, 64, rf)) := h.2.1
theorem PSk_49 {S : List zC} (h : PSk S) : (∃ rf : Nat → Option Nat, S[49]? = some (13, 36, rf)) := h.2.2
def PSo (S : List zC) : Prop := (∃ (w : Int) (rf : Nat → Option Nat), S[50]? = some (7, w, rf) ∧ rf 0 = some 51) ∧ (∃ rf : Nat → Option Nat, S[51]? = some (15, 9, rf))
theorem PSo_50 {S : List zC} (h : PSo S) : (∃ (w : Int) (rf : Nat → Option Nat), S[50]? = some (7, w, rf) ∧ rf 0 = some 51) := h.1
theorem PSo_51 {S : List zC} (h : PSo S) : (∃ rf : Nat → Option Nat, S[51]? = some (15, 9, rf)) := h.2
def PSd (S : List zC) : Prop := (∃ (w : Int) (rf : Nat → Option Nat), S[52]? = some (1, w, rf))
theorem PSd_52 {S : List zC} (h : PSd S) : (∃ (w : Int) (rf : Nat → Option Nat), S[52]? = some (1, w, rf)) := h
def PSm (S : List zC) : Prop := (∃ (w : Int) (rf : Nat → Option Nat), S[53]? = some (12, w, rf) ∧ rf 0 = some 54 ∧ rf 2 = some 55 ∧ rf 7 = some 56 ∧ rf 8 = some 57 ∧ rf 10 = some 58 ∧ rf 11 = some 59 ∧ rf 12 = some 60 ∧ rf 13 = some 61 ∧ rf 14 = some 62 ∧ rf 16 = some 63 ∧ rf 21 = some 64 ∧ rf 22 = some 65 ∧ rf 23 = some 66 ∧ rf 24 = some 67) ∧ (∃ rf : Nat → Option Nat, S[54]? = some (13, 40, rf)) ∧ (∃ rf : Nat → Option Nat, S[55]? = some (13, 32, rf)) ∧ (∃ rf : Nat → Option Nat, S[56]? = some (13, 56, rf)) ∧ (∃ rf : Nat → Option Nat, S[57]? = some (13, 18, rf)) ∧ (∃ rf : Nat → Option Nat, S[58]? = some (13, 24, rf)) ∧ (∃ rf : Nat → Option Nat, S[59]? = some (13, 56, rf)) ∧ (∃ rf : Nat → Option Nat, S[60]? = some (13, 18, rf)) ∧ (∃ rf : Nat → Option Nat, S[61]? = some (13, 64, rf)) ∧ (∃ rf : Nat → Option Nat, S[62]? = some (15, 10, rf)) ∧ (∃ rf : Nat → Option Nat, S[63]? = some (13, 16, rf)) ∧ (∃ rf : Nat → Option Nat, S[64]? = some (13, 56, rf)) ∧ (∃ rf : Nat → Option Nat, S[65]? = some (13, 18, rf)) ∧ (∃ rf : Nat → Option Nat, S[66]? = some (13, 24, rf)) ∧ (∃ rf : Nat → Option Nat, S[67]? = some (13, 16, rf))
theorem PSm_53 {S : List zC} (h : PSm S) : (∃ (w : Int) (rf : Nat → Option Nat), S[53]? = some (12, w, rf) ∧ rf 0 = some 54 ∧ rf 2 = some 55 ∧ rf 7 = some 56 ∧ rf 8 = some 57 ∧ rf 10 = some 58 ∧ rf 11 = some 59 ∧ rf 12 = some 60 ∧ rf 13 = some 61 ∧ rf 14 = some 62 ∧ rf 16 = some 63 ∧ rf 21 = some 64 ∧ rf 22 = some 65 ∧ rf 23 = some 66 ∧ rf 24 = some 67) := h.1
theorem PSm_54 {S : List zC} (h : PSm S) : (∃ rf : Nat → Option Nat, S[54]? = some (13, 40, rf)) := h.2.1
theorem PSm_55 {S : List zC} (h : PSm S) : (∃ rf : Nat → Option Nat, S[55]? = some (13, 32, rf)) := h.2.2.1
theorem PSm_56 {S : List zC} (h : PSm S) : (∃ rf : Nat → Option Nat, S[56]? = some (13, 56, rf)) := h.2.2.2.1
theorem PSm_57 {S : List zC} (h : PSm S) : (∃ rf : Nat → Option Nat, S[57]? = some (13, 18, rf)) := h.2.2.2.2.1
theorem PSm_58 {S : List zC} (h : PSm S) : (∃ rf : Nat → Option Nat, S[58]? = some (13, 24, rf)) := h.2.2.2.2.2.1
theorem PSm_59 {S : List zC} (h : PSm S) : (∃ rf : Nat → Option Nat, S[59]? = some (13, 56, rf)) := h.2.2.2.2.2.2.1
theorem PSm_60 {S : List zC} (h : PSm S) : (∃ rf : Nat → Option Nat, S[60]? = some (13, 18, rf)) := h.2.2.2.2.2.2.2.1
theorem PSm_61 {S : List zC} (h : PSm S) : (∃ rf : Nat → Option Nat, S[61]? = some (13, 64, rf)) := h.2.2.2.2.2.2.2.2.1
theorem PSm_62 {S : List zC} (h : PSm S) : (∃ rf : Nat → Option Nat, S[62]? = some (15, 10, rf)) := h.2.2.2.2.2.2.2.2.2.1
theorem PSm_63 {S : List zC} (h : PSm S) : (∃ rf : Nat → Option Nat, S[63]? = some (13, 16, rf)) := h.2.2.2.2.2.2.2.2.2.2.1
theorem PSm_64 {S : List zC} (h : PSm S) : (∃ rf : Nat → Option Nat, S[64]? = some (13, 56, rf)) := h.2.2.2.2.2.2.2.2.2.2.2.1
theorem PSm_65 {S : List zC} (h : PSm S) : (∃ rf : Nat → Option Nat, S[65]? = some (13, 18, rf)) := h.2.2.2.2.2.2.2.2.2.2.2.2.1
theorem PSm_66 {S : List zC} (h : PSm S) : (∃ rf : Nat → Option Nat, S[66]? = some (13, 24, rf)) := h.2.2.2.2.2.2.2.2.2.2.2.2.2.1
theorem PSm_67 {S : List zC} (h : PSm S) : (∃ rf : Nat → Option Nat, S[67]? = some (13, 16, rf)) := h.2.2.2.2.2.2.2.2.2.2.2.2.2.2
def PSx (S : List zC) : Prop := (∃ (w : Int) (rf : Nat → Option Nat), S[0]? = some (11, w, rf) ∧ rf 0 = some 1 ∧ rf 1 = some 3 ∧ rf 2 = some 14 ∧ rf 3 = some 25 ∧ rf 4 = some 36 ∧ rf 5 = some 47 ∧ rf 6 = some 50 ∧ rf 7 = some 52) ∧ PSp S ∧ PSi S 14 ∧ PSi S 25 ∧ PSi S 36 ∧ PSk S ∧ PSo S ∧ PSd S
theorem PSx_0 {S : List zC} (h : PSx S) : (∃ (w : Int) (rf : Nat → Option Nat), S[0]? = some (11, w, rf) ∧ rf 0 = some 1 ∧ rf 1 = some 3 ∧ rf 2 = some 14 ∧ rf 3 = some 25 ∧ rf 4 = some 36 ∧ rf 5 = some 47 ∧ rf 6 = some 50 ∧ rf 7 = some 52) := h.1
theorem PSx_p {S : List zC} (h : PSx S) : PSp S := h.2.1
theorem PSx_i14 {S : List zC} (h : PSx S) : PSi S 14 := h.2.2.1
theorem PSx_i25 {S : List zC} (h : PSx S) : PSi S 25 := h.2.2.2.1
theorem PSx_i36 {S : List zC} (h : PSx S) : PSi S 36 := h.2.2.2.2.1
theorem PSx_k {S : List zC} (h : PSx S) : PSk S := h.2.2.2.2.2.1
theorem PSx_o {S : List zC} (h : PSx S) : PSo S := h.2.2.2.2.2.2.1
theorem PSx_d {S : List zC} (h : PSx S) : PSd S := h.2.2.2.2.2.2.2
theorem lsub_s {v : zA} {a b : List (Option zA)} (h : b.head? = some (some v)) (k : lsub a b.tail) : lsub (some v :: a) b := ⟨h, k⟩
theorem lsub_n {a b : List (Option zA)} (k : lsub a b.tail) : lsub (none :: a) b := k
theorem lsub_0 {b : List (Option zA)} : lsub [] b := trivial
theorem z_B2R {x : Int} (h : x = 0 ∨ x = 1) : inR x := by omega
theorem z_R2L {x : Int} (h : inR x) : inL x := ⟨by omega, by omega⟩
/-! what a feud is, by its place in the row of feuds -/
def frS (S : List zC) : Nat → Option Nat := match S[4]? with
  | some sc => sc.2.2
  | none => fun _ => none
def fcS (S : List zC) (k : Nat) : zC := match frS S k with
  | some c => (S[c]?).getD (0, 0, fun _ => none)
  | none => (0, 0, fun _ => none)
def wtS (S : List zC) (k : Nat) : Int := (fcS S k).2.1
def kdT (t : Nat) : Int := if t = 0 then 1 else if t = 5 then 2 else if t = 3 then 3 else if t = 9 then 4 else 0
def kdS (S : List zC) (k : Nat) : Int := kdT (fcS S k).1
theorem fcS_eq {S : List zC} {k c : Nat} {rf : Nat → Option Nat} {n : Int} {t : Nat} {sc : zC} (h4 : S[4]? = some (t, n, rf)) (hk : rf k = some c) (hc : S[c]? = some sc) : fcS S k = sc := by
  unfold fcS frS
  rw [h4]
  dsimp only
  rw [hk]
  dsimp only
  rw [hc]
  rfl

/-- a long, as the number that it is -/
def wrL (x : Int) : Int := (Int64.ofInt x).toInt
theorem wrL_in (x : Int) : inL (wrL x) := ⟨Int64.le_toInt _, Int64.toInt_lt _⟩
section ZWR
variable {X : zM} {S : List zC} {V : zV} {nc ns pc : Nat} {al : List (Option zA)} {st : List zA}
theorem wrL_cv (ad : Nat → Nat) (x : Int) : cvv ad (zJ (wrL x)) = cvv ad (zJ x) := congrArg Value.long (Int64.ofInt_toInt _)
theorem a_wrapL {x : Int} (k : zW X S V nc ns al (zJ (wrL x) :: st) pc) : zW X S V nc ns al (zJ x :: st) pc := by
  obtain ⟨p, l, e, R, s, m, args, below, meth, c, D, cy, A, Q, ad0, n0⟩ := X
  intro ad H locs ls hw hS hL ho
  have h := k ad H locs ls hw hS hL ⟨trivial, ho.2⟩
  rw [List.map_cons, wrL_cv] at h
  exact h
theorem a_wrapL2 {x y : Int} (k : zW X S V nc ns al (zJ (wrL y) :: zJ (wrL x) :: st) pc) : zW X S V nc ns al (zJ y :: zJ x :: st) pc := by
  obtain ⟨p, l, e, R, s, m, args, below, meth, c, D, cy, A, Q, ad0, n0⟩ := X
  intro ad H locs ls hw hS hL ho
  have h := k ad H locs ls hw hS hL ⟨trivial, trivial, ho.2.2⟩
  rw [List.map_cons, List.map_cons, wrL_cv, wrL_cv] at h
  exact h
end ZWR
end
section
def m12_in  (V : zV) (a0 : Int) (a2 : Int) (a4 : Int) (Q : Int → zV → Prop) : Prop :=
  (inL a0) ∧ (inL a2) ∧ ((a0 < a2 → Q 0 V) ∧ (a2 ≤ a0 → (inL a4) ∧ ((a4 < a0 → Q 0 V) ∧ (a0 ≤ a4 → Q 1 V))))
def t12_in : zT := fun as S V post => ∃ (a0 : Int) (a2 : Int) (a4 : Int) (Q : Int → zV → Prop), as = [zJ a0, zJ a2, zJ a4] ∧ m12_in V a0 a2 a4 Q ∧ (∀ r V2, Q r V2 → post (some (zI r)) S V2)
set_option maxHeartbeats 4000000 in
set_option maxRecDepth 20000 in
theorem c12_in (l : Launch) : zCT l yX12_in cX12_in 6 (some .boolean) { frames := 0, cells := 0, slots := 0, locals := 0 } t12_in := by
  refine zCT_of (by decide) (fun as S V post h => by obtain ⟨a0, a2, a4, Q, rfl, -⟩ := h; exact Nat.le_of_ble_eq_true rfl) ?_
  intro X S V as post C E hT
  obtain ⟨a0, a2, a4, Q, rfl, hK, hpost⟩ := hT
  show zW X S V 0 0 [some (zJ a0), none, some (zJ a2), none, some (zJ a4), none] [] 0
  unfold m12_in at hK
  refine a_lload_n C dX12_in_0 rfl ?_
  refine a_lload_n C dX12_in_1 rfl ?_
  obtain ⟨q1, hK⟩ := hK
  obtain ⟨q2, hK⟩ := hK
  refine a_lcmp_lt C 17 dX12_in_2 dX12_in_3 (by decide) ⟨q1, q2⟩ (fun q3 => ?_) (fun q3 => ?_)
  · replace hK := hK.1 q3
    refine a_iconst C dX12_in_17 ?_
    exact a_zret C E dX12_in_18 (Nat.le_refl _) (Nat.le_refl _) (by decide) (hpost _ _ hK)
  · replace hK := hK.2 q3
    refine a_lload_n C dX12_in_6 rfl ?_
    refine a_lload C dX12_in_7 rfl ?_
    obtain ⟨q4, hK⟩ := hK
    refine a_lcmp_gt C 17 dX12_in_9 dX12_in_10 (by decide) ⟨q1, q4⟩ (fun q5 => ?_) (fun q5 => ?_)
    · replace hK := hK.1 q5
      refine a_iconst C dX12_in_17 ?_
      exact a_zret C E dX12_in_18 (Nat.le_refl _) (Nat.le_refl _) (by decide) (hpost _ _ hK)
    · replace hK := hK.2 q5
      refine a_iconst C dX12_in_13 ?_
      refine a_goto C 18 dX12_in_14 (by decide) ?_
      exact a_zret C E dX12_in_18 (Nat.le_refl _) (Nat.le_refl _) (by decide) (hpost _ _ hK)

def m12_letter  (V : zV) (a1 : Int) (Q : Int → zV → Prop) : Prop :=
  (inR a1) ∧ m12_in V a1 1 126 (fun r6 V6 => (inR r6) ∧ ((¬ r6 = 0 → ((¬ (V6 53 1) = 40 → (0 ≤ (V6 53 1) ∧ (V6 53 1) < 40) ∧ (inR (((vset V6 54 ((V6 53 1)).toNat a1) 53 1) + 1)) ∧ Q ((vset (vset V6 54 ((V6 53 1)).toNat a1) 53 1 (((vset V6 54 ((V6 53 1)).toNat a1) 53 1) + 1)) 53 1) (vset (vset V6 54 ((V6 53 1)).toNat a1) 53 1 (((vset V6 54 ((V6 53 1)).toNat a1) 53 1) + 1))) ∧ ((V6 53 1) = 40 → Q (-104) V6))) ∧ (r6 = 0 → Q (-102) V6)))
def t12_letter : zT := fun as S V post => ∃ (a1 : Int) (Q : Int → zV → Prop), as = [zR 53, zI a1] ∧ PSm S ∧ m12_letter V a1 Q ∧ (∀ r V2, Q r V2 → post (some (zI r)) S V2)
set_option maxHeartbeats 4000000 in
set_option maxRecDepth 20000 in
theorem c12_letter (l : Launch) : zCT l yX12_letter cX12_letter 2 (some .int) { frames := 1, cells := 0, slots := 0, locals := 25 } t12_letter := by
  refine zCT_of (by decide) (fun as S V post h => by obtain ⟨a1, Q, rfl, -⟩ := h; exact Nat.le_of_ble_eq_true rfl) ?_
  intro X S V as post C E hT
  obtain ⟨a1, Q, rfl, hM, hK, hpost⟩ := hT
  obtain ⟨w_53, r_53, h_53, g_53_0, g_53_2, g_53_7, g_53_8, g_53_10, g_53_11, g_53_12, g_53_13, g_53_14, g_53_16, g_53_21, g_53_22, g_53_23, g_53_24⟩ := PSm_53 hM
  obtain ⟨r_54, h_54⟩ := PSm_54 hM
  show zW X S V 0 0 [some (zR 53), some (zI a1)] [] 0
  unfold m12_letter at hK
  refine a_iload_n C dX12_letter_0 rfl ?_
  obtain ⟨q1, hK⟩ := hK
  refine a_i2l C dX12_letter_1 q1 ?_
  refine a_lconst C 1 dX12_letter_2 (by decide) ?_
  refine a_ldc2 C kl_X12_60 dX12_letter_3 ?_
  refine a_callS (as := [zJ a1, zJ 1, zJ 126]) (rest := []) C 3 (fun l => c12_in l) ml_X12_62 sa_X12_in in_X12 co_X12_in (by decide +kernel) rfl ⟨Nat.le_of_ble_eq_true rfl, Nat.le_of_ble_eq_true rfl⟩ (Nat.le_of_ble_eq_true rfl) dX12_letter_6 ⟨Nat.le_of_ble_eq_true rfl, Nat.le_of_ble_eq_true rfl⟩ ?_
  refine ⟨a1, 1, 126, _, rfl, hK, fun r6 V6 hK => ?_⟩
  try dsimp only [Option.toList, List.cons_append, List.nil_append]
  obtain ⟨q2, hK⟩ := hK
  refine a_if_ne C 15 dX12_letter_9 (by decide) q2 (fun q3 => ?_) (fun q3 => ?_)
  · replace hK := hK.1 q3
    refine a_aload_n C dX12_letter_15 rfl ?_
    refine a_getI C fl_X12_66_12 h_53 rfl dX12_letter_16 (fun r4 => ?_)
    refine a_bipush C dX12_letter_19 (by decide) ?_
    refine a_icmp_ne C 27 dX12_letter_21 (by decide) ⟨r4, ⟨by decide, by decide⟩⟩ (fun q5 => ?_) (fun q5 => ?_)
    · replace hK := hK.1 q5
      refine a_aload_n C dX12_letter_27 rfl ?_
      refine a_getR C fl_X12_7_12 h_53 rfl g_53_0 dX12_letter_28 ?_
      refine a_aload_n C dX12_letter_31 rfl ?_
      refine a_getI C fl_X12_66_12 h_53 rfl dX12_letter_32 (fun r6 => ?_)
      refine a_iload_n C dX12_letter_35 rfl ?_
      obtain ⟨q7, hK⟩ := hK
      refine a_iast C h_54 dX12_letter_36 (by decide) ⟨q7, q1⟩ ?_
      refine a_aload_n C dX12_letter_37 rfl ?_
      refine a_dup C dX12_letter_38 rfl ?_
      refine a_getI C fl_X12_66_12 h_53 rfl dX12_letter_39 (fun r8 => ?_)
      refine a_iconst C dX12_letter_42 ?_
      refine a_iadd C dX12_letter_43 ?_
      obtain ⟨q9, hK⟩ := hK
      refine a_putI C fl_X12_66_12 (Or.inl rfl) h_53 rfl dX12_letter_44 ⟨q9, fun q => by cases q⟩ ?_
      refine a_aload_n C dX12_letter_47 rfl ?_
      refine a_getI C fl_X12_66_12 h_53 rfl dX12_letter_48 (fun r10 => ?_)
      exact a_iret C E dX12_letter_51 (Nat.le_refl _) (Nat.le_refl _) (hpost _ _ hK)
    · replace hK := hK.2 q5
      refine a_bipush C dX12_letter_24 (by decide) ?_
      exact a_iret C E dX12_letter_26 (Nat.le_refl _) (Nat.le_refl _) (hpost _ _ hK)
  · replace hK := hK.2 q3
    refine a_bipush C dX12_letter_12 (by decide) ?_
    exact a_iret C E dX12_letter_14 (Nat.le_refl _) (Nat.le_refl _) (hpost _ _ hK)

def m12_blank  (V : zV)  (Q : Int → zV → Prop) : Prop :=
  Q (V 53 1) (vset V 53 1 0)
def t12_blank : zT := fun as S V post => ∃ (Q : Int → zV → Prop), as = [zR 53] ∧ PSm S ∧ m12_blank V Q ∧ (∀ r V2, Q r V2 → post (some (zI r)) S V2)
set_option maxHeartbeats 4000000 in
set_option maxRecDepth 20000 in
theorem c12_blank (l : Launch) : zCT l yX12_blank cX12_blank 2 (some .int) { frames := 0, cells := 0, slots := 0, locals := 0 } t12_blank := by
  refine zCT_of (by decide) (fun as S V post h => by obtain ⟨Q, rfl, -⟩ := h; exact Nat.le_of_ble_eq_true rfl) ?_
  intro X S V as post C E hT
  obtain ⟨Q, rfl, hM, hK, hpost⟩ := hT
  obtain ⟨w_53, r_53, h_53, g_53_0, g_53_2, g_53_7, g_53_8, g_53_10, g_53_11, g_53_12, g_53_13, g_53_14, g_53_16, g_53_21, g_53_22, g_53_23, g_53_24⟩ := PSm_53 hM
  show zW X S V 0 0 [some (zR 53), none] [] 0
  unfold m12_blank at hK
  refine a_aload_n C dX12_blank_0 rfl ?_
  refine a_getI C fl_X12_66_12 h_53 rfl dX12_blank_1 (fun r1 => ?_)
  refine a_istore_n C dX12_blank_4 (Nat.le_of_ble_eq_true rfl) ?_
  refine a_aload_n C dX12_blank_5 rfl ?_
  refine a_iconst C dX12_blank_6 ?_
  refine a_putI C fl_X12_66_12 (Or.inl rfl) h_53 rfl dX12_blank_7 ⟨⟨by decide, by decide⟩, fun q => by cases q⟩ ?_
  refine a_iload_n C dX12_blank_10 rfl ?_
  exact a_iret C E dX12_blank_11 (Nat.le_refl _) (Nat.le_refl _) (hpost _ _ hK)

def m12_kindBy  (V : zV) (a0 : Int) (Q : Int → zV → Prop) : Prop :=
  (inR a0) ∧ ((¬ a0 = 98 → ((¬ a0 = 106 → ((¬ a0 = 103 → ((¬ a0 = 112 → Q 0 V) ∧ (a0 = 112 → Q 4 V))) ∧ (a0 = 103 → Q 3 V))) ∧ (a0 = 106 → Q 2 V))) ∧ (a0 = 98 → Q 1 V))
def t12_kindBy : zT := fun as S V post => ∃ (a0 : Int) (Q : Int → zV → Prop), as = [zI a0] ∧ m12_kindBy V a0 Q ∧ (∀ r V2, Q r V2 → post (some (zI r)) S V2)
set_option maxHeartbeats 4000000 in
set_option maxRecDepth 20000 in
theorem c12_kindBy (l : Launch) : zCT l yX12_kindBy cX12_kindBy 1 (some .int) { frames := 0, cells := 0, slots := 0, locals := 0 } t12_kindBy := by
  refine zCT_of (by decide) (fun as S V post h => by obtain ⟨a0, Q, rfl, -⟩ := h; exact Nat.le_of_ble_eq_true rfl) ?_
  intro X S V as post C E hT
  obtain ⟨a0, Q, rfl, hK, hpost⟩ := hT
  show zW X S V 0 0 [some (zI a0)] [] 0
  unfold m12_kindBy at hK
  refine a_iload_n C dX12_kindBy_0 rfl ?_
  refine a_bipush C dX12_kindBy_1 (by decide) ?_
  obtain ⟨q1, hK⟩ := hK
  refine a_icmp_ne C 10 dX12_kindBy_3 (by decide) ⟨q1, ⟨by decide, by decide⟩⟩ (fun q2 => ?_) (fun q2 => ?_)
  · replace hK := hK.1 q2
    refine a_iload_n C dX12_kindBy_10 rfl ?_
    refine a_bipush C dX12_kindBy_11 (by decide) ?_
    refine a_icmp_ne C 20 dX12_kindBy_13 (by decide) ⟨q1, ⟨by decide, by decide⟩⟩ (fun q3 => ?_) (fun q3 => ?_)
    · replace hK := hK.1 q3
      refine a_iload_n C dX12_kindBy_20 rfl ?_
      refine a_bipush C dX12_kindBy_21 (by decide) ?_
      refine a_icmp_ne C 30 dX12_kindBy_23 (by decide) ⟨q1, ⟨by decide, by decide⟩⟩ (fun q4 => ?_) (fun q4 => ?_)
      · replace hK := hK.1 q4
        refine a_iload_n C dX12_kindBy_30 rfl ?_
        refine a_bipush C dX12_kindBy_31 (by decide) ?_
        refine a_icmp_ne C 40 dX12_kindBy_33 (by decide) ⟨q1, ⟨by decide, by decide⟩⟩ (fun q5 => ?_) (fun q5 => ?_)
        · replace hK := hK.1 q5
          refine a_iconst C dX12_kindBy_40 ?_
          exact a_iret C E dX12_kindBy_41 (Nat.le_refl _) (Nat.le_refl _) (hpost _ _ hK)
        · replace hK := hK.2 q5
          refine a_iconst C dX12_kindBy_36 ?_
          refine a_goto C 41 dX12_kindBy_37 (by decide) ?_
          exact a_iret C E dX12_kindBy_41 (Nat.le_refl _) (Nat.le_refl _) (hpost _ _ hK)
      · replace hK := hK.2 q4
        refine a_iconst C dX12_kindBy_26 ?_
        refine a_goto C 41 dX12_kindBy_27 (by decide) ?_
        exact a_iret C E dX12_kindBy_41 (Nat.le_refl _) (Nat.le_refl _) (hpost _ _ hK)
    · replace hK := hK.2 q3
      refine a_iconst C dX12_kindBy_16 ?_
      refine a_goto C 41 dX12_kindBy_17 (by decide) ?_
      exact a_iret C E dX12_kindBy_41 (Nat.le_refl _) (Nat.le_refl _) (hpost _ _ hK)
  · replace hK := hK.2 q2
    refine a_iconst C dX12_kindBy_6 ?_
    refine a_goto C 41 dX12_kindBy_7 (by decide) ?_
    exact a_iret C E dX12_kindBy_41 (Nat.le_refl _) (Nat.le_refl _) (hpost _ _ hK)

def m12_go_J173  (Q : Int → zV → Prop) (a2 : Int) (a3 : Int) (V : zV) : Prop :=
  (0 ≤ (a3 + 1) ∧ (a3 + 1) < 32) ∧ (inR a2) ∧ m12_in (vset (vset V 55 ((a3 + 1)).toNat a2) 53 4 2) a2 0 5 (fun r193 V193 => (r193 = 0 ∨ r193 = 1) ∧ Q r193 V193)
def m12_go  (V : zV) (a1 : Int) (Q : Int → zV → Prop) : Prop :=
  ((¬ (V 53 4) = 4 → ((¬ (V 53 4) = 3 → ((¬ (V 53 4) = 2 → ((¬ (V 53 4) = 0 → m12_go_J173  Q (a1 - 48) (4 * (V 53 3)) V) ∧ ((V 53 4) = 0 → m12_kindBy V a1 (fun r153 V153 => (0 ≤ (4 * (V 53 3)) ∧ (4 * (V 53 3)) < 32) ∧ (inR r153) ∧ (0 ≤ (4 * (V 53 3)) ∧ (4 * (V 53 3)) < 32) ∧ ((((vset V153 55 ((4 * (V 53 3))).toNat r153) 55 ((4 * (V 53 3))).toNat) ≤ 0 → m12_go_J173  Q (a1 - 48) (4 * (V 53 3)) (vset V153 55 ((4 * (V 53 3))).toNat r153)) ∧ (0 < ((vset V153 55 ((4 * (V 53 3))).toNat r153) 55 ((4 * (V 53 3))).toNat) → Q 1 (vset (vset V153 55 ((4 * (V 53 3))).toNat r153) 53 4 1))))))) ∧ ((V 53 4) = 2 → (0 ≤ ((4 * (V 53 3)) + 2) ∧ ((4 * (V 53 3)) + 2) < 32) ∧ (inR (a1 - 48)) ∧ m12_in (vset (vset V 55 (((4 * (V 53 3)) + 2)).toNat (a1 - 48)) 53 4 3) (a1 - 48) 0 5 (fun r116 V116 => (inR r116) ∧ ((r116 = 0 → Q 0 V116) ∧ (¬ r116 = 0 → (0 ≤ ((4 * (V 53 3)) + 1) ∧ ((4 * (V 53 3)) + 1) < 32) ∧ (((a1 - 48) = (V116 55 (((4 * (V 53 3)) + 1)).toNat) → Q 0 V116) ∧ (¬ (a1 - 48) = (V116 55 (((4 * (V 53 3)) + 1)).toNat) → Q 1 V116)))))))) ∧ ((V 53 4) = 3 → (0 ≤ ((4 * (V 53 3)) + 3) ∧ ((4 * (V 53 3)) + 3) < 32) ∧ (inR (a1 - 48)) ∧ (inR (((vset V 55 (((4 * (V 53 3)) + 3)).toNat (a1 - 48)) 53 3) + 1)) ∧ m12_in (vset (vset (vset V 55 (((4 * (V 53 3)) + 3)).toNat (a1 - 48)) 53 3 (((vset V 55 (((4 * (V 53 3)) + 3)).toNat (a1 - 48)) 53 3) + 1)) 53 4 4) (a1 - 48) 1 9 (fun r84 V84 => (r84 = 0 ∨ r84 = 1) ∧ Q r84 V84)))) ∧ ((V 53 4) = 4 → (inR a1) ∧ ((¬ a1 = 44 → Q 0 (vset V 53 4 0)) ∧ (a1 = 44 → ((8 ≤ ((vset V 53 4 0) 53 3) → Q 0 (vset V 53 4 0)) ∧ (((vset V 53 4 0) 53 3) < 8 → Q 1 (vset V 53 4 0)))))))
def t12_go : zT := fun as S V post => ∃ (a1 : Int) (Q : Int → zV → Prop), as = [zR 53, zI a1] ∧ PSm S ∧ m12_go V a1 Q ∧ (∀ r V2, Q r V2 → post (some (zI r)) S V2)
set_option maxHeartbeats 4000000 in
set_option maxRecDepth 20000 in
theorem c12_go (l : Launch) : zCT l yX12_go cX12_go 4 (some .boolean) { frames := 1, cells := 0, slots := 0, locals := 25 } t12_go := by
  refine zCT_of (by decide) (fun as S V post h => by obtain ⟨a1, Q, rfl, -⟩ := h; exact Nat.le_of_ble_eq_true rfl) ?_
  intro X S V as post C E hT
  obtain ⟨a1, Q, rfl, hM, hK, hpost⟩ := hT
  obtain ⟨w_53, r_53, h_53, g_53_0, g_53_2, g_53_7, g_53_8, g_53_10, g_53_11, g_53_12, g_53_13, g_53_14, g_53_16, g_53_21, g_53_22, g_53_23, g_53_24⟩ := PSm_53 hM
  obtain ⟨r_55, h_55⟩ := PSm_55 hM
  show zW X S V 0 0 [some (zR 53), some (zI a1), none, none] [] 0
  unfold m12_go at hK
  refine a_iload_n C dX12_go_0 rfl ?_
  refine a_bipush C dX12_go_1 (by decide) ?_
  refine a_isub C dX12_go_3 ?_
  refine a_istore_n C dX12_go_4 (Nat.le_of_ble_eq_true rfl) ?_
  refine a_iconst C dX12_go_5 ?_
  refine a_aload_n C dX12_go_6 rfl ?_
  refine a_getI C fl_X12_69_12 h_53 rfl dX12_go_7 (fun r1 => ?_)
  refine a_imul C dX12_go_10 ?_
  refine a_istore_n C dX12_go_11 (Nat.le_of_ble_eq_true rfl) ?_
  refine a_aload_n C dX12_go_12 rfl ?_
  refine a_getI C fl_X12_72_12 h_53 rfl dX12_go_13 (fun r2 => ?_)
  refine a_iconst C dX12_go_16 ?_
  refine a_icmp_ne C 46 dX12_go_17 (by decide) ⟨r2, ⟨by decide, by decide⟩⟩ (fun q3 => ?_) (fun q3 => ?_)
  · replace hK := hK.1 q3
    refine a_aload_n C dX12_go_46 rfl ?_
    refine a_getI C fl_X12_72_12 h_53 rfl dX12_go_47 (fun r4 => ?_)
    refine a_iconst C dX12_go_50 ?_
    refine a_icmp_ne C 88 dX12_go_51 (by decide) ⟨r4, ⟨by decide, by decide⟩⟩ (fun q5 => ?_) (fun q5 => ?_)
    · replace hK := hK.1 q5
      refine a_aload_n C dX12_go_88 rfl ?_
      refine a_getI C fl_X12_72_12 h_53 rfl dX12_go_89 (fun r6 => ?_)
      refine a_iconst C dX12_go_92 ?_
      refine a_icmp_ne C 140 dX12_go_93 (by decide) ⟨r6, ⟨by decide, by decide⟩⟩ (fun q7 => ?_) (fun q7 => ?_)
      · replace hK := hK.1 q7
        have J173 : ∀ (a2 : Int) (a3 : Int) (V : zV), m12_go_J173  Q a2 a3 V → zW X S V 0 0 [some (zR 53), none, some (zI a2), some (zI a3)] [] 173 := by
          intro a2 a3 V hK
          unfold m12_go_J173 at hK
          refine a_aload_n C dX12_go_173 rfl ?_
          refine a_getR C fl_X12_13_12 h_53 rfl g_53_2 dX12_go_174 ?_
          refine a_iload_n C dX12_go_177 rfl ?_
          refine a_iconst C dX12_go_178 ?_
          refine a_iadd C dX12_go_179 ?_
          refine a_iload_n C dX12_go_180 rfl ?_
          obtain ⟨q11, hK⟩ := hK
          obtain ⟨q12, hK⟩ := hK
          refine a_iast C h_55 dX12_go_181 (by decide) ⟨q11, q12⟩ ?_
          refine a_aload_n C dX12_go_182 rfl ?_
          refine a_iconst C dX12_go_183 ?_
          refine a_putI C fl_X12_72_12 (Or.inl rfl) h_53 rfl dX12_go_184 ⟨⟨by decide, by decide⟩, fun q => by cases q⟩ ?_
          refine a_iload_n C dX12_go_187 rfl ?_
          refine a_i2l C dX12_go_188 q12 ?_
          refine a_lconst C 0 dX12_go_189 (by decide) ?_
          refine a_ldc2 C kl_X12_77 dX12_go_190 ?_
          refine a_callS (as := [zJ a2, zJ 0, zJ 5]) (rest := []) C 3 (fun l => c12_in l) ml_X12_62 sa_X12_in in_X12 co_X12_in (by decide +kernel) rfl ⟨Nat.le_of_ble_eq_true rfl, Nat.le_of_ble_eq_true rfl⟩ (Nat.le_of_ble_eq_true rfl) dX12_go_193 ⟨Nat.le_of_ble_eq_true rfl, Nat.le_of_ble_eq_true rfl⟩ ?_
          refine ⟨a2, 0, 5, _, rfl, hK, fun r193 V193 hK => ?_⟩
          try dsimp only [Option.toList, List.cons_append, List.nil_append]
          obtain ⟨q13, hK⟩ := hK
          exact a_zret C E dX12_go_196 (Nat.le_refl _) (Nat.le_refl _) q13 (hpost _ _ hK)
        refine a_aload_n C dX12_go_140 rfl ?_
        refine a_getI C fl_X12_72_12 h_53 rfl dX12_go_141 (fun r14 => ?_)
        refine a_if_ne C 173 dX12_go_144 (by decide) r14 (fun q15 => ?_) (fun q15 => ?_)
        · replace hK := hK.1 q15
          exact a_ls (lsub_s rfl (lsub_n (lsub_s rfl (lsub_s rfl lsub_0)))) (J173 (a1 - 48) (4 * (V 53 3)) _ hK)
        · replace hK := hK.2 q15
          refine a_aload_n C dX12_go_147 rfl ?_
          refine a_getR C fl_X12_13_12 h_53 rfl g_53_2 dX12_go_148 ?_
          refine a_iload_n C dX12_go_151 rfl ?_
          refine a_iload_n C dX12_go_152 rfl ?_
          refine a_callS (as := [zI a1]) (rest := [zI (4 * (V 53 3)), zR 55]) C 1 (fun l => c12_kindBy l) ml_X12_79 sa_X12_kindBy in_X12 co_X12_kindBy (by decide +kernel) rfl ⟨Nat.le_of_ble_eq_true rfl, Nat.le_of_ble_eq_true rfl⟩ (Nat.le_of_ble_eq_true rfl) dX12_go_153 ⟨Nat.le_of_ble_eq_true rfl, Nat.le_of_ble_eq_true rfl⟩ ?_
          refine ⟨a1, _, rfl, hK, fun r153 V153 hK => ?_⟩
          try dsimp only [Option.toList, List.cons_append, List.nil_append]
          obtain ⟨q16, hK⟩ := hK
          obtain ⟨q17, hK⟩ := hK
          refine a_iast C h_55 dX12_go_156 (by decide) ⟨q16, q17⟩ ?_
          refine a_aload_n C dX12_go_157 rfl ?_
          refine a_getR C fl_X12_13_12 h_53 rfl g_53_2 dX12_go_158 ?_
          refine a_iload_n C dX12_go_161 rfl ?_
          obtain ⟨q18, hK⟩ := hK
          refine a_iald C h_55 dX12_go_162 (by decide) q18 (fun r19 => ?_)
          refine a_if_le C 173 dX12_go_163 (by decide) r19 (fun q20 => ?_) (fun q20 => ?_)
          · replace hK := hK.1 q20
            exact a_ls (lsub_s rfl (lsub_n (lsub_s rfl (lsub_s rfl lsub_0)))) (J173 (a1 - 48) (4 * (V 53 3)) _ hK)
          · replace hK := hK.2 q20
            refine a_aload_n C dX12_go_166 rfl ?_
            refine a_iconst C dX12_go_167 ?_
            refine a_putI C fl_X12_72_12 (Or.inl rfl) h_53 rfl dX12_go_168 ⟨⟨by decide, by decide⟩, fun q => by cases q⟩ ?_
            refine a_iconst C dX12_go_171 ?_
            exact a_zret C E dX12_go_172 (Nat.le_refl _) (Nat.le_refl _) (by decide) (hpost _ _ hK)
      · replace hK := hK.2 q7
        refine a_aload_n C dX12_go_96 rfl ?_
        refine a_getR C fl_X12_13_12 h_53 rfl g_53_2 dX12_go_97 ?_
        refine a_iload_n C dX12_go_100 rfl ?_
        refine a_iconst C dX12_go_101 ?_
        refine a_iadd C dX12_go_102 ?_
        refine a_iload_n C dX12_go_103 rfl ?_
        obtain ⟨q21, hK⟩ := hK
        obtain ⟨q22, hK⟩ := hK
        refine a_iast C h_55 dX12_go_104 (by decide) ⟨q21, q22⟩ ?_
        refine a_aload_n C dX12_go_105 rfl ?_
        refine a_iconst C dX12_go_106 ?_
        refine a_putI C fl_X12_72_12 (Or.inl rfl) h_53 rfl dX12_go_107 ⟨⟨by decide, by decide⟩, fun q => by cases q⟩ ?_
        refine a_iload_n C dX12_go_110 rfl ?_
        refine a_i2l C dX12_go_111 q22 ?_
        refine a_lconst C 0 dX12_go_112 (by decide) ?_
        refine a_ldc2 C kl_X12_77 dX12_go_113 ?_
        refine a_callS (as := [zJ (a1 - 48), zJ 0, zJ 5]) (rest := []) C 3 (fun l => c12_in l) ml_X12_62 sa_X12_in in_X12 co_X12_in (by decide +kernel) rfl ⟨Nat.le_of_ble_eq_true rfl, Nat.le_of_ble_eq_true rfl⟩ (Nat.le_of_ble_eq_true rfl) dX12_go_116 ⟨Nat.le_of_ble_eq_true rfl, Nat.le_of_ble_eq_true rfl⟩ ?_
        refine ⟨(a1 - 48), 0, 5, _, rfl, hK, fun r116 V116 hK => ?_⟩
        try dsimp only [Option.toList, List.cons_append, List.nil_append]
        obtain ⟨q23, hK⟩ := hK
        refine a_if_eq C 138 dX12_go_119 (by decide) q23 (fun q24 => ?_) (fun q24 => ?_)
        · replace hK := hK.1 q24
          refine a_iconst C dX12_go_138 ?_
          exact a_zret C E dX12_go_139 (Nat.le_refl _) (Nat.le_refl _) (by decide) (hpost _ _ hK)
        · replace hK := hK.2 q24
          refine a_iload_n C dX12_go_122 rfl ?_
          refine a_aload_n C dX12_go_123 rfl ?_
          refine a_getR C fl_X12_13_12 h_53 rfl g_53_2 dX12_go_124 ?_
          refine a_iload_n C dX12_go_127 rfl ?_
          refine a_iconst C dX12_go_128 ?_
          refine a_iadd C dX12_go_129 ?_
          obtain ⟨q25, hK⟩ := hK
          refine a_iald C h_55 dX12_go_130 (by decide) q25 (fun r26 => ?_)
          refine a_icmp_eq C 138 dX12_go_131 (by decide) ⟨q22, r26⟩ (fun q27 => ?_) (fun q27 => ?_)
          · replace hK := hK.1 q27
            refine a_iconst C dX12_go_138 ?_
            exact a_zret C E dX12_go_139 (Nat.le_refl _) (Nat.le_refl _) (by decide) (hpost _ _ hK)
          · replace hK := hK.2 q27
            refine a_iconst C dX12_go_134 ?_
            refine a_goto C 139 dX12_go_135 (by decide) ?_
            exact a_zret C E dX12_go_139 (Nat.le_refl _) (Nat.le_refl _) (by decide) (hpost _ _ hK)
    · replace hK := hK.2 q5
      refine a_aload_n C dX12_go_54 rfl ?_
      refine a_getR C fl_X12_13_12 h_53 rfl g_53_2 dX12_go_55 ?_
      refine a_iload_n C dX12_go_58 rfl ?_
      refine a_iconst C dX12_go_59 ?_
      refine a_iadd C dX12_go_60 ?_
      refine a_iload_n C dX12_go_61 rfl ?_
      obtain ⟨q28, hK⟩ := hK
      obtain ⟨q29, hK⟩ := hK
      refine a_iast C h_55 dX12_go_62 (by decide) ⟨q28, q29⟩ ?_
      refine a_aload_n C dX12_go_63 rfl ?_
      refine a_dup C dX12_go_64 rfl ?_
      refine a_getI C fl_X12_69_12 h_53 rfl dX12_go_65 (fun r30 => ?_)
      refine a_iconst C dX12_go_68 ?_
      refine a_iadd C dX12_go_69 ?_
      obtain ⟨q31, hK⟩ := hK
      refine a_putI C fl_X12_69_12 (Or.inl rfl) h_53 rfl dX12_go_70 ⟨q31, fun q => by cases q⟩ ?_
      refine a_aload_n C dX12_go_73 rfl ?_
      refine a_iconst C dX12_go_74 ?_
      refine a_putI C fl_X12_72_12 (Or.inl rfl) h_53 rfl dX12_go_75 ⟨⟨by decide, by decide⟩, fun q => by cases q⟩ ?_
      refine a_iload_n C dX12_go_78 rfl ?_
      refine a_i2l C dX12_go_79 q29 ?_
      refine a_lconst C 1 dX12_go_80 (by decide) ?_
      refine a_ldc2 C kl_X12_75 dX12_go_81 ?_
      refine a_callS (as := [zJ (a1 - 48), zJ 1, zJ 9]) (rest := []) C 3 (fun l => c12_in l) ml_X12_62 sa_X12_in in_X12 co_X12_in (by decide +kernel) rfl ⟨Nat.le_of_ble_eq_true rfl, Nat.le_of_ble_eq_true rfl⟩ (Nat.le_of_ble_eq_true rfl) dX12_go_84 ⟨Nat.le_of_ble_eq_true rfl, Nat.le_of_ble_eq_true rfl⟩ ?_
      refine ⟨(a1 - 48), 1, 9, _, rfl, hK, fun r84 V84 hK => ?_⟩
      try dsimp only [Option.toList, List.cons_append, List.nil_append]
      obtain ⟨q32, hK⟩ := hK
      exact a_zret C E dX12_go_87 (Nat.le_refl _) (Nat.le_refl _) q32 (hpost _ _ hK)
  · replace hK := hK.2 q3
    refine a_aload_n C dX12_go_20 rfl ?_
    refine a_iconst C dX12_go_21 ?_
    refine a_putI C fl_X12_72_12 (Or.inl rfl) h_53 rfl dX12_go_22 ⟨⟨by decide, by decide⟩, fun q => by cases q⟩ ?_
    refine a_iload_n C dX12_go_25 rfl ?_
    refine a_bipush C dX12_go_26 (by decide) ?_
    obtain ⟨q33, hK⟩ := hK
    refine a_icmp_ne C 44 dX12_go_28 (by decide) ⟨q33, ⟨by decide, by decide⟩⟩ (fun q34 => ?_) (fun q34 => ?_)
    · replace hK := hK.1 q34
      refine a_iconst C dX12_go_44 ?_
      exact a_zret C E dX12_go_45 (Nat.le_refl _) (Nat.le_refl _) (by decide) (hpost _ _ hK)
    · replace hK := hK.2 q34
      refine a_aload_n C dX12_go_31 rfl ?_
      refine a_getI C fl_X12_69_12 h_53 rfl dX12_go_32 (fun r35 => ?_)
      refine a_bipush C dX12_go_35 (by decide) ?_
      refine a_icmp_ge C 44 dX12_go_37 (by decide) ⟨r35, ⟨by decide, by decide⟩⟩ (fun q36 => ?_) (fun q36 => ?_)
      · replace hK := hK.1 q36
        refine a_iconst C dX12_go_44 ?_
        exact a_zret C E dX12_go_45 (Nat.le_refl _) (Nat.le_refl _) (by decide) (hpost _ _ hK)
      · replace hK := hK.2 q36
        refine a_iconst C dX12_go_40 ?_
        refine a_goto C 45 dX12_go_41 (by decide) ?_
        exact a_zret C E dX12_go_45 (Nat.le_refl _) (Nat.le_refl _) (by decide) (hpost _ _ hK)

def m12_faultOf_L12  (Q : Int → zV → Prop) : Nat → Int → zV → Prop
  | 0 => fun _ _ => False
  | n + 1 => fun a1 V => (inR a1) ∧ (((V 53 1) ≤ a1 → Q a1 V) ∧ (a1 < (V 53 1) → (0 ≤ a1 ∧ a1 < 40) ∧ m12_go V (V 54 (a1).toNat) (fun r27 V27 => (inR r27) ∧ ((r27 = 0 → Q a1 V27) ∧ (¬ r27 = 0 → m12_faultOf_L12  Q n (a1 + 1) V27)))))
def m12_faultOf  (V : zV)  (Q : Int → zV → Prop) : Prop :=
  ∃ n15, m12_faultOf_L12  Q n15 0 (vset (vset V 53 3 0) 53 4 0)
def t12_faultOf : zT := fun as S V post => ∃ (Q : Int → zV → Prop), as = [zR 53] ∧ PSm S ∧ m12_faultOf V Q ∧ (∀ r V2, Q r V2 → post (some (zI r)) S V2)
set_option maxHeartbeats 4000000 in
set_option maxRecDepth 20000 in
theorem c12_faultOf (l : Launch) : zCT l yX12_faultOf cX12_faultOf 2 (some .int) { frames := 2, cells := 0, slots := 0, locals := 48 } t12_faultOf := by
  refine zCT_of (by decide) (fun as S V post h => by obtain ⟨Q, rfl, -⟩ := h; exact Nat.le_of_ble_eq_true rfl) ?_
  intro X S V as post C E hT
  obtain ⟨Q, rfl, hM, hK, hpost⟩ := hT
  obtain ⟨w_53, r_53, h_53, g_53_0, g_53_2, g_53_7, g_53_8, g_53_10, g_53_11, g_53_12, g_53_13, g_53_14, g_53_16, g_53_21, g_53_22, g_53_23, g_53_24⟩ := PSm_53 hM
  obtain ⟨r_54, h_54⟩ := PSm_54 hM
  show zW X S V 0 0 [some (zR 53), none] [] 0
  unfold m12_faultOf at hK
  have L12 : ∀ (n : Nat) (a1 : Int) (V : zV), m12_faultOf_L12  Q n a1 V → zW X S V 0 0 [some (zR 53), some (zI a1)] [] 12 := by
    intro n
    induction n with
    | zero => intro _ _ hK; exact hK.elim
    | succ n ih12 =>
      intro a1 V hK
      unfold m12_faultOf_L12 at hK
      refine a_iload_n C dX12_faultOf_12 rfl ?_
      refine a_aload_n C dX12_faultOf_13 rfl ?_
      refine a_getI C fl_X12_66_12 h_53 rfl dX12_faultOf_14 (fun r8 => ?_)
      obtain ⟨q9, hK⟩ := hK
      refine a_icmp_ge C 39 dX12_faultOf_17 (by decide) ⟨q9, r8⟩ (fun q10 => ?_) (fun q10 => ?_)
      · replace hK := hK.1 q10
        refine a_iload_n C dX12_faultOf_39 rfl ?_
        exact a_iret C E dX12_faultOf_40 (Nat.le_refl _) (Nat.le_refl _) (hpost _ _ hK)
      · replace hK := hK.2 q10
        refine a_aload_n C dX12_faultOf_20 rfl ?_
        refine a_aload_n C dX12_faultOf_21 rfl ?_
        refine a_getR C fl_X12_7_12 h_53 rfl g_53_0 dX12_faultOf_22 ?_
        refine a_iload_n C dX12_faultOf_25 rfl ?_
        obtain ⟨q11, hK⟩ := hK
        refine a_iald C h_54 dX12_faultOf_26 (by decide) q11 (fun r12 => ?_)
        refine a_callV (as := [zI (V 54 (a1).toNat)]) (rest := []) C 1 (fun l => c12_go l) h_53 ⟨_, _, rfl⟩ (by decide) ml_X12_83 im_X12_go se_X12_go in_X12 co_X12_go (by decide +kernel) rfl ⟨Nat.le_of_ble_eq_true rfl, Nat.le_of_ble_eq_true rfl⟩ (Nat.le_of_ble_eq_true rfl) dX12_faultOf_27 ⟨Nat.le_of_ble_eq_true rfl, Nat.le_of_ble_eq_true rfl⟩ ?_
        refine ⟨(V 54 (a1).toNat), _, rfl, hM, hK, fun r27 V27 hK => ?_⟩
        try dsimp only [Option.toList, List.cons_append, List.nil_append]
        obtain ⟨q13, hK⟩ := hK
        refine a_if_eq C 39 dX12_faultOf_30 (by decide) q13 (fun q14 => ?_) (fun q14 => ?_)
        · replace hK := hK.1 q14
          refine a_iload_n C dX12_faultOf_39 rfl ?_
          exact a_iret C E dX12_faultOf_40 (Nat.le_refl _) (Nat.le_refl _) (hpost _ _ hK)
        · replace hK := hK.2 q14
          refine a_iinc C dX12_faultOf_33 rfl (Nat.le_of_ble_eq_true rfl) ?_
          refine a_goto C 12 dX12_faultOf_36 (by decide) ?_
          exact a_ls (lsub_s rfl (lsub_s rfl lsub_0)) (ih12 (a1 + 1) _ hK)
  refine a_aload_n C dX12_faultOf_0 rfl ?_
  refine a_iconst C dX12_faultOf_1 ?_
  refine a_putI C fl_X12_69_12 (Or.inl rfl) h_53 rfl dX12_faultOf_2 ⟨⟨by decide, by decide⟩, fun q => by cases q⟩ ?_
  refine a_aload_n C dX12_faultOf_5 rfl ?_
  refine a_iconst C dX12_faultOf_6 ?_
  refine a_putI C fl_X12_72_12 (Or.inl rfl) h_53 rfl dX12_faultOf_7 ⟨⟨by decide, by decide⟩, fun q => by cases q⟩ ?_
  refine a_iconst C dX12_faultOf_10 ?_
  refine a_istore_n C dX12_faultOf_11 (Nat.le_of_ble_eq_true rfl) ?_
  obtain ⟨n15, hK⟩ := hK
  exact a_ls (lsub_s rfl (lsub_s rfl lsub_0)) (L12 n15 0 _ hK)

def m12_fault  (V : zV)  (Q : Int → zV → Prop) : Prop :=
  m12_faultOf V (fun r1 V1 => Q r1 V1)
def t12_fault : zT := fun as S V post => ∃ (Q : Int → zV → Prop), as = [zR 53] ∧ PSm S ∧ m12_fault V Q ∧ (∀ r V2, Q r V2 → post (some (zI r)) S V2)
set_option maxHeartbeats 4000000 in
set_option maxRecDepth 20000 in
theorem c12_fault (l : Launch) : zCT l yX12_fault cX12_fault 1 (some .int) { frames := 3, cells := 0, slots := 0, locals := 69 } t12_fault := by
  refine zCT_of (by decide) (fun as S V post h => by obtain ⟨Q, rfl, -⟩ := h; exact Nat.le_of_ble_eq_true rfl) ?_
  intro X S V as post C E hT
  obtain ⟨Q, rfl, hM, hK, hpost⟩ := hT
  obtain ⟨w_53, r_53, h_53, g_53_0, g_53_2, g_53_7, g_53_8, g_53_10, g_53_11, g_53_12, g_53_13, g_53_14, g_53_16, g_53_21, g_53_22, g_53_23, g_53_24⟩ := PSm_53 hM
  show zW X S V 0 0 [some (zR 53)] [] 0
  unfold m12_fault at hK
  refine a_aload_n C dX12_fault_0 rfl ?_
  refine a_callV (as := []) (rest := []) C 0 (fun l => c12_faultOf l) h_53 ⟨_, _, rfl⟩ (by decide) ml_X12_87 im_X12_faultOf se_X12_faultOf in_X12 co_X12_faultOf (by decide +kernel) rfl ⟨Nat.le_of_ble_eq_true rfl, Nat.le_of_ble_eq_true rfl⟩ (Nat.le_of_ble_eq_true rfl) dX12_fault_1 ⟨Nat.le_of_ble_eq_true rfl, Nat.le_of_ble_eq_true rfl⟩ ?_
  refine ⟨_, rfl, hM, hK, fun r1 V1 hK => ?_⟩
  try dsimp only [Option.toList, List.cons_append, List.nil_append]
  exact a_iret C E dX12_fault_4 (Nat.le_refl _) (Nat.le_refl _) (hpost _ _ hK)

def m12_peopleAsAtFirst_L2  (Q : zV → Prop) : Nat → Int → zV → Prop
  | 0 => fun _ _ => False
  | n + 1 => fun a1 V => (inR a1) ∧ ((6 ≤ a1 → Q V) ∧ (a1 < 6 → (0 ≤ (3 * a1) ∧ (3 * a1) < 18) ∧ (0 ≤ ((3 * a1) + 1) ∧ ((3 * a1) + 1) < 18) ∧ (0 ≤ ((3 * a1) + 2) ∧ ((3 * a1) + 2) < 18) ∧ m12_peopleAsAtFirst_L2  Q n (a1 + 1) (vset (vset (vset V 57 ((3 * a1)).toNat 9) 57 (((3 * a1) + 1)).toNat (-1)) 57 (((3 * a1) + 2)).toNat 1)))
def m12_peopleAsAtFirst  (V : zV)  (Q : zV → Prop) : Prop :=
  ∃ n11, m12_peopleAsAtFirst_L2  Q n11 0 V
def t12_peopleAsAtFirst : zT := fun as S V post => ∃ (Q : zV → Prop), as = [zR 53] ∧ PSm S ∧ m12_peopleAsAtFirst V Q ∧ (∀ V2, Q V2 → post none S V2)
set_option maxHeartbeats 4000000 in
set_option maxRecDepth 20000 in
theorem c12_peopleAsAtFirst (l : Launch) : zCT l yX12_peopleAsAtFirst cX12_peopleAsAtFirst 2 none { frames := 0, cells := 0, slots := 0, locals := 0 } t12_peopleAsAtFirst := by
  refine zCT_of (by decide) (fun as S V post h => by obtain ⟨Q, rfl, -⟩ := h; exact Nat.le_of_ble_eq_true rfl) ?_
  intro X S V as post C E hT
  obtain ⟨Q, rfl, hM, hK, hpost⟩ := hT
  obtain ⟨w_53, r_53, h_53, g_53_0, g_53_2, g_53_7, g_53_8, g_53_10, g_53_11, g_53_12, g_53_13, g_53_14, g_53_16, g_53_21, g_53_22, g_53_23, g_53_24⟩ := PSm_53 hM
  obtain ⟨r_57, h_57⟩ := PSm_57 hM
  show zW X S V 0 0 [some (zR 53), none] [] 0
  unfold m12_peopleAsAtFirst at hK
  have L2 : ∀ (n : Nat) (a1 : Int) (V : zV), m12_peopleAsAtFirst_L2  Q n a1 V → zW X S V 0 0 [some (zR 53), some (zI a1)] [] 2 := by
    intro n
    induction n with
    | zero => intro _ _ hK; exact hK.elim
    | succ n ih2 =>
      intro a1 V hK
      unfold m12_peopleAsAtFirst_L2 at hK
      refine a_iload_n C dX12_peopleAsAtFirst_2 rfl ?_
      refine a_bipush C dX12_peopleAsAtFirst_3 (by decide) ?_
      obtain ⟨q6, hK⟩ := hK
      refine a_icmp_ge C 46 dX12_peopleAsAtFirst_5 (by decide) ⟨q6, ⟨by decide, by decide⟩⟩ (fun q7 => ?_) (fun q7 => ?_)
      · replace hK := hK.1 q7
        exact a_vret C E dX12_peopleAsAtFirst_46 (Nat.le_refl _) (Nat.le_refl _) (hpost _ hK)
      · replace hK := hK.2 q7
        refine a_aload_n C dX12_peopleAsAtFirst_8 rfl ?_
        refine a_getR C fl_X12_19_12 h_53 rfl g_53_8 dX12_peopleAsAtFirst_9 ?_
        refine a_iconst C dX12_peopleAsAtFirst_12 ?_
        refine a_iload_n C dX12_peopleAsAtFirst_13 rfl ?_
        refine a_imul C dX12_peopleAsAtFirst_14 ?_
        refine a_bipush C dX12_peopleAsAtFirst_15 (by decide) ?_
        obtain ⟨q8, hK⟩ := hK
        refine a_iast C h_57 dX12_peopleAsAtFirst_17 (by decide) ⟨q8, ⟨by decide, by decide⟩⟩ ?_
        refine a_aload_n C dX12_peopleAsAtFirst_18 rfl ?_
        refine a_getR C fl_X12_19_12 h_53 rfl g_53_8 dX12_peopleAsAtFirst_19 ?_
        refine a_iconst C dX12_peopleAsAtFirst_22 ?_
        refine a_iload_n C dX12_peopleAsAtFirst_23 rfl ?_
        refine a_imul C dX12_peopleAsAtFirst_24 ?_
        refine a_iconst C dX12_peopleAsAtFirst_25 ?_
        refine a_iadd C dX12_peopleAsAtFirst_26 ?_
        refine a_iconst C dX12_peopleAsAtFirst_27 ?_
        obtain ⟨q9, hK⟩ := hK
        refine a_iast C h_57 dX12_peopleAsAtFirst_28 (by decide) ⟨q9, ⟨by decide, by decide⟩⟩ ?_
        refine a_aload_n C dX12_peopleAsAtFirst_29 rfl ?_
        refine a_getR C fl_X12_19_12 h_53 rfl g_53_8 dX12_peopleAsAtFirst_30 ?_
        refine a_iconst C dX12_peopleAsAtFirst_33 ?_
        refine a_iload_n C dX12_peopleAsAtFirst_34 rfl ?_
        refine a_imul C dX12_peopleAsAtFirst_35 ?_
        refine a_iconst C dX12_peopleAsAtFirst_36 ?_
        refine a_iadd C dX12_peopleAsAtFirst_37 ?_
        refine a_iconst C dX12_peopleAsAtFirst_38 ?_
        obtain ⟨q10, hK⟩ := hK
        refine a_iast C h_57 dX12_peopleAsAtFirst_39 (by decide) ⟨q10, ⟨by decide, by decide⟩⟩ ?_
        refine a_iinc C dX12_peopleAsAtFirst_40 rfl (Nat.le_of_ble_eq_true rfl) ?_
        refine a_goto C 2 dX12_peopleAsAtFirst_43 (by decide) ?_
        exact a_ls (lsub_s rfl (lsub_s rfl lsub_0)) (ih2 (a1 + 1) _ hK)
  refine a_iconst C dX12_peopleAsAtFirst_0 ?_
  refine a_istore_n C dX12_peopleAsAtFirst_1 (Nat.le_of_ble_eq_true rfl) ?_
  obtain ⟨n11, hK⟩ := hK
  exact a_ls (lsub_s rfl (lsub_s rfl lsub_0)) (L2 n11 0 _ hK)

def m12_list_L24  (Q : Int → zV → Prop) : Nat → Int → zV → Prop
  | 0 => fun _ _ => False
  | n + 1 => fun a1 V => (inR a1) ∧ (((V 53 3) ≤ a1 → m12_peopleAsAtFirst (vset V 53 5 (V 53 3)) (fun V148 => (inR (((vset (vset V148 53 9 0) 53 15 0) 53 6) + 1)) ∧ Q ((vset (vset (vset (vset V148 53 9 0) 53 15 0) 53 6 (((vset (vset V148 53 9 0) 53 15 0) 53 6) + 1)) 53 1 0) 53 5) (vset (vset (vset (vset V148 53 9 0) 53 15 0) 53 6 (((vset (vset V148 53 9 0) 53 15 0) 53 6) + 1)) 53 1 0))) ∧ (a1 < (V 53 3) → (0 ≤ (4 * a1) ∧ (4 * a1) < 32) ∧ (0 ≤ (7 * a1) ∧ (7 * a1) < 56) ∧ (0 ≤ ((4 * a1) + 3) ∧ ((4 * a1) + 3) < 32) ∧ (0 ≤ ((7 * a1) + 1) ∧ ((7 * a1) + 1) < 56) ∧ (0 ≤ ((7 * a1) + 2) ∧ ((7 * a1) + 2) < 56) ∧ (0 ≤ ((4 * a1) + 1) ∧ ((4 * a1) + 1) < 32) ∧ (0 ≤ ((7 * a1) + 3) ∧ ((7 * a1) + 3) < 56) ∧ (0 ≤ ((4 * a1) + 2) ∧ ((4 * a1) + 2) < 32) ∧ (0 ≤ ((7 * a1) + 4) ∧ ((7 * a1) + 4) < 56) ∧ (0 ≤ ((7 * a1) + 5) ∧ ((7 * a1) + 5) < 56) ∧ (0 ≤ ((7 * a1) + 6) ∧ ((7 * a1) + 6) < 56) ∧ m12_list_L24  Q n (a1 + 1) (vset (vset (vset (vset (vset (vset (vset V 56 ((7 * a1)).toNat (V 55 ((4 * a1)).toNat)) 56 (((7 * a1) + 1)).toNat ((vset V 56 ((7 * a1)).toNat (V 55 ((4 * a1)).toNat)) 55 (((4 * a1) + 3)).toNat)) 56 (((7 * a1) + 2)).toNat 0) 56 (((7 * a1) + 3)).toNat ((vset (vset (vset V 56 ((7 * a1)).toNat (V 55 ((4 * a1)).toNat)) 56 (((7 * a1) + 1)).toNat ((vset V 56 ((7 * a1)).toNat (V 55 ((4 * a1)).toNat)) 55 (((4 * a1) + 3)).toNat)) 56 (((7 * a1) + 2)).toNat 0) 55 (((4 * a1) + 1)).toNat)) 56 (((7 * a1) + 4)).toNat ((vset (vset (vset (vset V 56 ((7 * a1)).toNat (V 55 ((4 * a1)).toNat)) 56 (((7 * a1) + 1)).toNat ((vset V 56 ((7 * a1)).toNat (V 55 ((4 * a1)).toNat)) 55 (((4 * a1) + 3)).toNat)) 56 (((7 * a1) + 2)).toNat 0) 56 (((7 * a1) + 3)).toNat ((vset (vset (vset V 56 ((7 * a1)).toNat (V 55 ((4 * a1)).toNat)) 56 (((7 * a1) + 1)).toNat ((vset V 56 ((7 * a1)).toNat (V 55 ((4 * a1)).toNat)) 55 (((4 * a1) + 3)).toNat)) 56 (((7 * a1) + 2)).toNat 0) 55 (((4 * a1) + 1)).toNat)) 55 (((4 * a1) + 2)).toNat)) 56 (((7 * a1) + 5)).toNat (-1)) 56 (((7 * a1) + 6)).toNat (-1))))
def m12_list  (V : zV)  (Q : Int → zV → Prop) : Prop :=
  m12_faultOf V (fun r1 V1 => (inR r1) ∧ ((r1 < (V1 53 1) → Q (-103) V1) ∧ ((V1 53 1) ≤ r1 → (((V1 53 4) = 4 → ∃ n50, m12_list_L24  Q n50 0 V1) ∧ (¬ (V1 53 4) = 4 → Q (-103) V1)))))
def t12_list : zT := fun as S V post => ∃ (Q : Int → zV → Prop), as = [zR 53] ∧ PSm S ∧ m12_list V Q ∧ (∀ r V2, Q r V2 → post (some (zI r)) S V2)
set_option maxHeartbeats 4000000 in
set_option maxRecDepth 20000 in
theorem c12_list (l : Launch) : zCT l yX12_list cX12_list 3 (some .int) { frames := 3, cells := 0, slots := 0, locals := 69 } t12_list := by
  refine zCT_of (by decide) (fun as S V post h => by obtain ⟨Q, rfl, -⟩ := h; exact Nat.le_of_ble_eq_true rfl) ?_
  intro X S V as post C E hT
  obtain ⟨Q, rfl, hM, hK, hpost⟩ := hT
  obtain ⟨w_53, r_53, h_53, g_53_0, g_53_2, g_53_7, g_53_8, g_53_10, g_53_11, g_53_12, g_53_13, g_53_14, g_53_16, g_53_21, g_53_22, g_53_23, g_53_24⟩ := PSm_53 hM
  obtain ⟨r_55, h_55⟩ := PSm_55 hM
  obtain ⟨r_56, h_56⟩ := PSm_56 hM
  show zW X S V 0 0 [some (zR 53), none, none] [] 0
  unfold m12_list at hK
  refine a_aload_n C dX12_list_0 rfl ?_
  refine a_callV (as := []) (rest := []) C 0 (fun l => c12_faultOf l) h_53 ⟨_, _, rfl⟩ (by decide) ml_X12_87 im_X12_faultOf se_X12_faultOf in_X12 co_X12_faultOf (by decide +kernel) rfl ⟨Nat.le_of_ble_eq_true rfl, Nat.le_of_ble_eq_true rfl⟩ (Nat.le_of_ble_eq_true rfl) dX12_list_1 ⟨Nat.le_of_ble_eq_true rfl, Nat.le_of_ble_eq_true rfl⟩ ?_
  refine ⟨_, rfl, hM, hK, fun r1 V1 hK => ?_⟩
  try dsimp only [Option.toList, List.cons_append, List.nil_append]
  refine a_aload_n C dX12_list_4 rfl ?_
  refine a_getI C fl_X12_66_12 h_53 rfl dX12_list_5 (fun r1 => ?_)
  obtain ⟨q2, hK⟩ := hK
  refine a_icmp_lt C 19 dX12_list_8 (by decide) ⟨q2, r1⟩ (fun q3 => ?_) (fun q3 => ?_)
  · replace hK := hK.1 q3
    refine a_bipush C dX12_list_19 (by decide) ?_
    exact a_iret C E dX12_list_21 (Nat.le_refl _) (Nat.le_refl _) (hpost _ _ hK)
  · replace hK := hK.2 q3
    refine a_aload_n C dX12_list_11 rfl ?_
    refine a_getI C fl_X12_72_12 h_53 rfl dX12_list_12 (fun r4 => ?_)
    refine a_iconst C dX12_list_15 ?_
    refine a_icmp_eq C 22 dX12_list_16 (by decide) ⟨r4, ⟨by decide, by decide⟩⟩ (fun q5 => ?_) (fun q5 => ?_)
    · replace hK := hK.1 q5
      have L24 : ∀ (n : Nat) (a1 : Int) (V : zV), m12_list_L24  Q n a1 V → zW X S V 0 0 [some (zR 53), some (zI a1), none] [] 24 := by
        intro n
        induction n with
        | zero => intro _ _ hK; exact hK.elim
        | succ n ih24 =>
          intro a1 V hK
          unfold m12_list_L24 at hK
          refine a_iload_n C dX12_list_24 rfl ?_
          refine a_aload_n C dX12_list_25 rfl ?_
          refine a_getI C fl_X12_69_12 h_53 rfl dX12_list_26 (fun r28 => ?_)
          obtain ⟨q29, hK⟩ := hK
          refine a_icmp_ge C 139 dX12_list_29 (by decide) ⟨q29, r28⟩ (fun q30 => ?_) (fun q30 => ?_)
          · replace hK := hK.1 q30
            refine a_aload_n C dX12_list_139 rfl ?_
            refine a_aload_n C dX12_list_140 rfl ?_
            refine a_getI C fl_X12_69_12 h_53 rfl dX12_list_141 (fun r31 => ?_)
            refine a_putI C fl_X12_91_12 (Or.inl rfl) h_53 rfl dX12_list_144 ⟨r31, fun q => by cases q⟩ ?_
            refine a_aload_n C dX12_list_147 rfl ?_
            refine a_callV (as := []) (rest := []) C 0 (fun l => c12_peopleAsAtFirst l) h_53 ⟨_, _, rfl⟩ (by decide) ml_X12_57 im_X12_peopleAsAtFirst se_X12_peopleAsAtFirst in_X12 co_X12_peopleAsAtFirst (by decide +kernel) rfl ⟨Nat.le_of_ble_eq_true rfl, Nat.le_of_ble_eq_true rfl⟩ (Nat.le_of_ble_eq_true rfl) dX12_list_148 ⟨Nat.le_of_ble_eq_true rfl, Nat.le_of_ble_eq_true rfl⟩ ?_
            refine ⟨_, rfl, hM, hK, fun V148 hK => ?_⟩
            try dsimp only [Option.toList, List.cons_append, List.nil_append]
            refine a_aload_n C dX12_list_151 rfl ?_
            refine a_iconst C dX12_list_152 ?_
            refine a_putI C fl_X12_94_12 (Or.inl rfl) h_53 rfl dX12_list_153 ⟨⟨by decide, by decide⟩, fun q => by cases q⟩ ?_
            refine a_aload_n C dX12_list_156 rfl ?_
            refine a_iconst C dX12_list_157 ?_
            refine a_putI C fl_X12_97_12 (Or.inl rfl) h_53 rfl dX12_list_158 ⟨⟨by decide, by decide⟩, fun q => by cases q⟩ ?_
            refine a_aload_n C dX12_list_161 rfl ?_
            refine a_dup C dX12_list_162 rfl ?_
            refine a_getI C fl_X12_100_12 h_53 rfl dX12_list_163 (fun r32 => ?_)
            refine a_iconst C dX12_list_166 ?_
            refine a_iadd C dX12_list_167 ?_
            obtain ⟨q33, hK⟩ := hK
            refine a_putI C fl_X12_100_12 (Or.inl rfl) h_53 rfl dX12_list_168 ⟨q33, fun q => by cases q⟩ ?_
            refine a_aload_n C dX12_list_171 rfl ?_
            refine a_iconst C dX12_list_172 ?_
            refine a_putI C fl_X12_66_12 (Or.inl rfl) h_53 rfl dX12_list_173 ⟨⟨by decide, by decide⟩, fun q => by cases q⟩ ?_
            refine a_aload_n C dX12_list_176 rfl ?_
            refine a_getI C fl_X12_91_12 h_53 rfl dX12_list_177 (fun r34 => ?_)
            exact a_iret C E dX12_list_180 (Nat.le_refl _) (Nat.le_refl _) (hpost _ _ hK)
          · replace hK := hK.2 q30
            refine a_bipush C dX12_list_32 (by decide) ?_
            refine a_iload_n C dX12_list_34 rfl ?_
            refine a_imul C dX12_list_35 ?_
            refine a_istore_n C dX12_list_36 (Nat.le_of_ble_eq_true rfl) ?_
            refine a_aload_n C dX12_list_37 rfl ?_
            refine a_getR C fl_X12_16_12 h_53 rfl g_53_7 dX12_list_38 ?_
            refine a_iload_n C dX12_list_41 rfl ?_
            refine a_aload_n C dX12_list_42 rfl ?_
            refine a_getR C fl_X12_13_12 h_53 rfl g_53_2 dX12_list_43 ?_
            refine a_iconst C dX12_list_46 ?_
            refine a_iload_n C dX12_list_47 rfl ?_
            refine a_imul C dX12_list_48 ?_
            obtain ⟨q35, hK⟩ := hK
            refine a_iald C h_55 dX12_list_49 (by decide) q35 (fun r36 => ?_)
            obtain ⟨q37, hK⟩ := hK
            refine a_iast C h_56 dX12_list_50 (by decide) ⟨q37, r36⟩ ?_
            refine a_aload_n C dX12_list_51 rfl ?_
            refine a_getR C fl_X12_16_12 h_53 rfl g_53_7 dX12_list_52 ?_
            refine a_iload_n C dX12_list_55 rfl ?_
            refine a_iconst C dX12_list_56 ?_
            refine a_iadd C dX12_list_57 ?_
            refine a_aload_n C dX12_list_58 rfl ?_
            refine a_getR C fl_X12_13_12 h_53 rfl g_53_2 dX12_list_59 ?_
            refine a_iconst C dX12_list_62 ?_
            refine a_iload_n C dX12_list_63 rfl ?_
            refine a_imul C dX12_list_64 ?_
            refine a_iconst C dX12_list_65 ?_
            refine a_iadd C dX12_list_66 ?_
            obtain ⟨q38, hK⟩ := hK
            refine a_iald C h_55 dX12_list_67 (by decide) q38 (fun r39 => ?_)
            obtain ⟨q40, hK⟩ := hK
            refine a_iast C h_56 dX12_list_68 (by decide) ⟨q40, r39⟩ ?_
            refine a_aload_n C dX12_list_69 rfl ?_
            refine a_getR C fl_X12_16_12 h_53 rfl g_53_7 dX12_list_70 ?_
            refine a_iload_n C dX12_list_73 rfl ?_
            refine a_iconst C dX12_list_74 ?_
            refine a_iadd C dX12_list_75 ?_
            refine a_iconst C dX12_list_76 ?_
            obtain ⟨q41, hK⟩ := hK
            refine a_iast C h_56 dX12_list_77 (by decide) ⟨q41, ⟨by decide, by decide⟩⟩ ?_
            refine a_aload_n C dX12_list_78 rfl ?_
            refine a_getR C fl_X12_16_12 h_53 rfl g_53_7 dX12_list_79 ?_
            refine a_iload_n C dX12_list_82 rfl ?_
            refine a_iconst C dX12_list_83 ?_
            refine a_iadd C dX12_list_84 ?_
            refine a_aload_n C dX12_list_85 rfl ?_
            refine a_getR C fl_X12_13_12 h_53 rfl g_53_2 dX12_list_86 ?_
            refine a_iconst C dX12_list_89 ?_
            refine a_iload_n C dX12_list_90 rfl ?_
            refine a_imul C dX12_list_91 ?_
            refine a_iconst C dX12_list_92 ?_
            refine a_iadd C dX12_list_93 ?_
            obtain ⟨q42, hK⟩ := hK
            refine a_iald C h_55 dX12_list_94 (by decide) q42 (fun r43 => ?_)
            obtain ⟨q44, hK⟩ := hK
            refine a_iast C h_56 dX12_list_95 (by decide) ⟨q44, r43⟩ ?_
            refine a_aload_n C dX12_list_96 rfl ?_
            refine a_getR C fl_X12_16_12 h_53 rfl g_53_7 dX12_list_97 ?_
            refine a_iload_n C dX12_list_100 rfl ?_
            refine a_iconst C dX12_list_101 ?_
            refine a_iadd C dX12_list_102 ?_
            refine a_aload_n C dX12_list_103 rfl ?_
            refine a_getR C fl_X12_13_12 h_53 rfl g_53_2 dX12_list_104 ?_
            refine a_iconst C dX12_list_107 ?_
            refine a_iload_n C dX12_list_108 rfl ?_
            refine a_imul C dX12_list_109 ?_
            refine a_iconst C dX12_list_110 ?_
            refine a_iadd C dX12_list_111 ?_
            obtain ⟨q45, hK⟩ := hK
            refine a_iald C h_55 dX12_list_112 (by decide) q45 (fun r46 => ?_)
            obtain ⟨q47, hK⟩ := hK
            refine a_iast C h_56 dX12_list_113 (by decide) ⟨q47, r46⟩ ?_
            refine a_aload_n C dX12_list_114 rfl ?_
            refine a_getR C fl_X12_16_12 h_53 rfl g_53_7 dX12_list_115 ?_
            refine a_iload_n C dX12_list_118 rfl ?_
            refine a_iconst C dX12_list_119 ?_
            refine a_iadd C dX12_list_120 ?_
            refine a_iconst C dX12_list_121 ?_
            obtain ⟨q48, hK⟩ := hK
            refine a_iast C h_56 dX12_list_122 (by decide) ⟨q48, ⟨by decide, by decide⟩⟩ ?_
            refine a_aload_n C dX12_list_123 rfl ?_
            refine a_getR C fl_X12_16_12 h_53 rfl g_53_7 dX12_list_124 ?_
            refine a_iload_n C dX12_list_127 rfl ?_
            refine a_bipush C dX12_list_128 (by decide) ?_
            refine a_iadd C dX12_list_130 ?_
            refine a_iconst C dX12_list_131 ?_
            obtain ⟨q49, hK⟩ := hK
            refine a_iast C h_56 dX12_list_132 (by decide) ⟨q49, ⟨by decide, by decide⟩⟩ ?_
            refine a_iinc C dX12_list_133 rfl (Nat.le_of_ble_eq_true rfl) ?_
            refine a_goto C 24 dX12_list_136 (by decide) ?_
            exact a_ls (lsub_s rfl (lsub_s rfl (lsub_n lsub_0))) (ih24 (a1 + 1) _ hK)
      refine a_iconst C dX12_list_22 ?_
      refine a_istore_n C dX12_list_23 (Nat.le_of_ble_eq_true rfl) ?_
      obtain ⟨n50, hK⟩ := hK
      exact a_ls (lsub_s rfl (lsub_s rfl (lsub_n lsub_0))) (L24 n50 0 _ hK)
    · replace hK := hK.2 q5
      refine a_bipush C dX12_list_19 (by decide) ?_
      exact a_iret C E dX12_list_21 (Nat.le_refl _) (Nat.le_refl _) (hpost _ _ hK)

def m12_lacks  (V : zV)  (Q : Int → zV → Prop) : Prop :=
  ((¬ (V 53 5) = 0 → Q 0 V) ∧ ((V 53 5) = 0 → Q 1 V))
def t12_lacks : zT := fun as S V post => ∃ (Q : Int → zV → Prop), as = [zR 53] ∧ PSm S ∧ m12_lacks V Q ∧ (∀ r V2, Q r V2 → post (some (zI r)) S V2)
set_option maxHeartbeats 4000000 in
set_option maxRecDepth 20000 in
theorem c12_lacks (l : Launch) : zCT l yX12_lacks cX12_lacks 1 (some .boolean) { frames := 0, cells := 0, slots := 0, locals := 0 } t12_lacks := by
  refine zCT_of (by decide) (fun as S V post h => by obtain ⟨Q, rfl, -⟩ := h; exact Nat.le_of_ble_eq_true rfl) ?_
  intro X S V as post C E hT
  obtain ⟨Q, rfl, hM, hK, hpost⟩ := hT
  obtain ⟨w_53, r_53, h_53, g_53_0, g_53_2, g_53_7, g_53_8, g_53_10, g_53_11, g_53_12, g_53_13, g_53_14, g_53_16, g_53_21, g_53_22, g_53_23, g_53_24⟩ := PSm_53 hM
  show zW X S V 0 0 [some (zR 53)] [] 0
  unfold m12_lacks at hK
  refine a_aload_n C dX12_lacks_0 rfl ?_
  refine a_getI C fl_X12_91_12 h_53 rfl dX12_lacks_1 (fun r1 => ?_)
  refine a_if_ne C 11 dX12_lacks_4 (by decide) r1 (fun q2 => ?_) (fun q2 => ?_)
  · replace hK := hK.1 q2
    refine a_iconst C dX12_lacks_11 ?_
    exact a_zret C E dX12_lacks_12 (Nat.le_refl _) (Nat.le_refl _) (by decide) (hpost _ _ hK)
  · replace hK := hK.2 q2
    refine a_iconst C dX12_lacks_7 ?_
    refine a_goto C 12 dX12_lacks_8 (by decide) ?_
    exact a_zret C E dX12_lacks_12 (Nat.le_refl _) (Nat.le_refl _) (by decide) (hpost _ _ hK)

def m12_isFeud  (V : zV) (a1 : Int) (Q : Int → zV → Prop) : Prop :=
  (inR a1) ∧ (inR ((V 53 5) - 1)) ∧ m12_in V a1 0 ((V 53 5) - 1) (fun r10 V10 => (r10 = 0 ∨ r10 = 1) ∧ Q r10 V10)
def t12_isFeud : zT := fun as S V post => ∃ (a1 : Int) (Q : Int → zV → Prop), as = [zR 53, zI a1] ∧ PSm S ∧ m12_isFeud V a1 Q ∧ (∀ r V2, Q r V2 → post (some (zI r)) S V2)
set_option maxHeartbeats 4000000 in
set_option maxRecDepth 20000 in
theorem c12_isFeud (l : Launch) : zCT l yX12_isFeud cX12_isFeud 2 (some .boolean) { frames := 1, cells := 0, slots := 0, locals := 25 } t12_isFeud := by
  refine zCT_of (by decide) (fun as S V post h => by obtain ⟨a1, Q, rfl, -⟩ := h; exact Nat.le_of_ble_eq_true rfl) ?_
  intro X S V as post C E hT
  obtain ⟨a1, Q, rfl, hM, hK, hpost⟩ := hT
  obtain ⟨w_53, r_53, h_53, g_53_0, g_53_2, g_53_7, g_53_8, g_53_10, g_53_11, g_53_12, g_53_13, g_53_14, g_53_16, g_53_21, g_53_22, g_53_23, g_53_24⟩ := PSm_53 hM
  show zW X S V 0 0 [some (zR 53), some (zI a1)] [] 0
  unfold m12_isFeud at hK
  refine a_iload_n C dX12_isFeud_0 rfl ?_
  obtain ⟨q1, hK⟩ := hK
  refine a_i2l C dX12_isFeud_1 q1 ?_
  refine a_lconst C 0 dX12_isFeud_2 (by decide) ?_
  refine a_aload_n C dX12_isFeud_3 rfl ?_
  refine a_getI C fl_X12_91_12 h_53 rfl dX12_isFeud_4 (fun r2 => ?_)
  refine a_iconst C dX12_isFeud_7 ?_
  refine a_isub C dX12_isFeud_8 ?_
  obtain ⟨q3, hK⟩ := hK
  refine a_i2l C dX12_isFeud_9 q3 ?_
  refine a_callS (as := [zJ a1, zJ 0, zJ ((V 53 5) - 1)]) (rest := []) C 3 (fun l => c12_in l) ml_X12_62 sa_X12_in in_X12 co_X12_in (by decide +kernel) rfl ⟨Nat.le_of_ble_eq_true rfl, Nat.le_of_ble_eq_true rfl⟩ (Nat.le_of_ble_eq_true rfl) dX12_isFeud_10 ⟨Nat.le_of_ble_eq_true rfl, Nat.le_of_ble_eq_true rfl⟩ ?_
  refine ⟨a1, 0, ((V 53 5) - 1), _, rfl, hK, fun r10 V10 hK => ?_⟩
  try dsimp only [Option.toList, List.cons_append, List.nil_append]
  obtain ⟨q4, hK⟩ := hK
  exact a_zret C E dX12_isFeud_13 (Nat.le_refl _) (Nat.le_refl _) q4 (hpost _ _ hK)

def m12_isPerson  (V : zV) (a0 : Int) (Q : Int → zV → Prop) : Prop :=
  (inR a0) ∧ m12_in V a0 0 5 (fun r6 V6 => (r6 = 0 ∨ r6 = 1) ∧ Q r6 V6)
def t12_isPerson : zT := fun as S V post => ∃ (a0 : Int) (Q : Int → zV → Prop), as = [zI a0] ∧ m12_isPerson V a0 Q ∧ (∀ r V2, Q r V2 → post (some (zI r)) S V2)
set_option maxHeartbeats 4000000 in
set_option maxRecDepth 20000 in
theorem c12_isPerson (l : Launch) : zCT l yX12_isPerson cX12_isPerson 1 (some .boolean) { frames := 1, cells := 0, slots := 0, locals := 25 } t12_isPerson := by
  refine zCT_of (by decide) (fun as S V post h => by obtain ⟨a0, Q, rfl, -⟩ := h; exact Nat.le_of_ble_eq_true rfl) ?_
  intro X S V as post C E hT
  obtain ⟨a0, Q, rfl, hK, hpost⟩ := hT
  show zW X S V 0 0 [some (zI a0)] [] 0
  unfold m12_isPerson at hK
  refine a_iload_n C dX12_isPerson_0 rfl ?_
  obtain ⟨q1, hK⟩ := hK
  refine a_i2l C dX12_isPerson_1 q1 ?_
  refine a_lconst C 0 dX12_isPerson_2 (by decide) ?_
  refine a_ldc2 C kl_X12_77 dX12_isPerson_3 ?_
  refine a_callS (as := [zJ a0, zJ 0, zJ 5]) (rest := []) C 3 (fun l => c12_in l) ml_X12_62 sa_X12_in in_X12 co_X12_in (by decide +kernel) rfl ⟨Nat.le_of_ble_eq_true rfl, Nat.le_of_ble_eq_true rfl⟩ (Nat.le_of_ble_eq_true rfl) dX12_isPerson_6 ⟨Nat.le_of_ble_eq_true rfl, Nat.le_of_ble_eq_true rfl⟩ ?_
  refine ⟨a0, 0, 5, _, rfl, hK, fun r6 V6 hK => ?_⟩
  try dsimp only [Option.toList, List.cons_append, List.nil_append]
  obtain ⟨q2, hK⟩ := hK
  exact a_zret C E dX12_isPerson_9 (Nat.le_refl _) (Nat.le_refl _) q2 (hpost _ _ hK)
end
