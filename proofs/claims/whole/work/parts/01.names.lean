-- ===== PART A: goes FIRST, ahead of the names: the tables' words, and 'selects' of the private methods out of them =====
/-- a private method of a class that the tables say can be made, by its rows of tables_1 -/
def lw_okq (q : MethodName × Nat) : Prop := (q.1.cls ≠ "java/lang/invoke/MethodHandle" ∧ q.1.cls ≠ "java/lang/invoke/VarHandle") ∧ Cond.instantiable q.1.cls q.2 ∈ tables_1 ∧ Cond.privateMethod q.1 ∈ tables_1 ∧ Cond.instanceMethod q.1 ∈ tables_1
theorem lw_p0 : lw_okq (⟨"MarkerWalks", "fail", "(I)I"⟩, 11) := ⟨⟨by decide +kernel, by decide +kernel⟩, List.mem_of_getElem? (i := 16) (by decide +kernel), List.mem_of_getElem? (i := 240) (by decide +kernel), List.mem_of_getElem? (i := 241) (by decide +kernel)⟩
theorem lw_p1 : lw_okq (⟨"MarkerWalks$Network", "gather", "()V"⟩, 10) := ⟨⟨by decide +kernel, by decide +kernel⟩, List.mem_of_getElem? (i := 24) (by decide +kernel), List.mem_of_getElem? (i := 249) (by decide +kernel), List.mem_of_getElem? (i := 250) (by decide +kernel)⟩
theorem lw_p2 : lw_okq (⟨"MarkerWalks$Network", "lead", "(III)V"⟩, 10) := ⟨⟨by decide +kernel, by decide +kernel⟩, List.mem_of_getElem? (i := 24) (by decide +kernel), List.mem_of_getElem? (i := 256) (by decide +kernel), List.mem_of_getElem? (i := 257) (by decide +kernel)⟩
theorem lw_p3 : lw_okq (⟨"MarkerWalks$Network", "neighbours", "(I)I"⟩, 10) := ⟨⟨by decide +kernel, by decide +kernel⟩, List.mem_of_getElem? (i := 24) (by decide +kernel), List.mem_of_getElem? (i := 324) (by decide +kernel), List.mem_of_getElem? (i := 325) (by decide +kernel)⟩
theorem lw_p4 : lw_okq (⟨"MarkerWalks$Network", "pairsAmong", "(II)I"⟩, 10) := ⟨⟨by decide +kernel, by decide +kernel⟩, List.mem_of_getElem? (i := 24) (by decide +kernel), List.mem_of_getElem? (i := 340) (by decide +kernel), List.mem_of_getElem? (i := 341) (by decide +kernel)⟩
theorem lw_p5 : lw_okq (⟨"MarkerWalks$Network", "endsAsSet", "(I)I"⟩, 10) := ⟨⟨by decide +kernel, by decide +kernel⟩, List.mem_of_getElem? (i := 24) (by decide +kernel), List.mem_of_getElem? (i := 344) (by decide +kernel), List.mem_of_getElem? (i := 345) (by decide +kernel)⟩
theorem lw_p6 : lw_okq (⟨"MarkerWalks$Tape", "fits", "(I)Z"⟩, 2) := ⟨⟨by decide +kernel, by decide +kernel⟩, List.mem_of_getElem? (i := 168) (by decide +kernel), List.mem_of_getElem? (i := 389) (by decide +kernel), List.mem_of_getElem? (i := 390) (by decide +kernel)⟩
theorem lw_p7 : lw_okq (⟨"MarkerWalks$Judge", "weigh", "(II)I"⟩, 4) := ⟨⟨by decide +kernel, by decide +kernel⟩, List.mem_of_getElem? (i := 74) (by decide +kernel), List.mem_of_getElem? (i := 434) (by decide +kernel), List.mem_of_getElem? (i := 435) (by decide +kernel)⟩
theorem lw_p8 : lw_okq (⟨"MarkerWalks$Judge", "overLines", "()Z"⟩, 4) := ⟨⟨by decide +kernel, by decide +kernel⟩, List.mem_of_getElem? (i := 74) (by decide +kernel), List.mem_of_getElem? (i := 438) (by decide +kernel), List.mem_of_getElem? (i := 439) (by decide +kernel)⟩
theorem lw_p9 : lw_okq (⟨"MarkerWalks", "isOver", "()Z"⟩, 11) := ⟨⟨by decide +kernel, by decide +kernel⟩, List.mem_of_getElem? (i := 16) (by decide +kernel), List.mem_of_getElem? (i := 496) (by decide +kernel), List.mem_of_getElem? (i := 497) (by decide +kernel)⟩
theorem lw_p10 : lw_okq (⟨"MarkerWalks$Judge", "spread", "(I)I"⟩, 4) := ⟨⟨by decide +kernel, by decide +kernel⟩, List.mem_of_getElem? (i := 74) (by decide +kernel), List.mem_of_getElem? (i := 554) (by decide +kernel), List.mem_of_getElem? (i := 555) (by decide +kernel)⟩
theorem lw_p11 : lw_okq (⟨"MarkerWalks$Judge", "farEnds", "(II)I"⟩, 4) := ⟨⟨by decide +kernel, by decide +kernel⟩, List.mem_of_getElem? (i := 74) (by decide +kernel), List.mem_of_getElem? (i := 561) (by decide +kernel), List.mem_of_getElem? (i := 562) (by decide +kernel)⟩
theorem lw_p12 : lw_okq (⟨"MarkerWalks$Planner", "simple", "(II)I"⟩, 3) := ⟨⟨by decide +kernel, by decide +kernel⟩, List.mem_of_getElem? (i := 93) (by decide +kernel), List.mem_of_getElem? (i := 580) (by decide +kernel), List.mem_of_getElem? (i := 581) (by decide +kernel)⟩
theorem lw_p13 : lw_okq (⟨"MarkerWalks$Planner", "pairAtMarker", "(I)I"⟩, 3) := ⟨⟨by decide +kernel, by decide +kernel⟩, List.mem_of_getElem? (i := 93) (by decide +kernel), List.mem_of_getElem? (i := 596) (by decide +kernel), List.mem_of_getElem? (i := 597) (by decide +kernel)⟩
theorem lw_p14 : lw_okq (⟨"MarkerWalks$Planner", "drawn", "(I)I"⟩, 3) := ⟨⟨by decide +kernel, by decide +kernel⟩, List.mem_of_getElem? (i := 93) (by decide +kernel), List.mem_of_getElem? (i := 604) (by decide +kernel), List.mem_of_getElem? (i := 605) (by decide +kernel)⟩
theorem lw_p15 : lw_okq (⟨"MarkerWalks$Planner", "narrowest", "(II)I"⟩, 3) := ⟨⟨by decide +kernel, by decide +kernel⟩, List.mem_of_getElem? (i := 93) (by decide +kernel), List.mem_of_getElem? (i := 610) (by decide +kernel), List.mem_of_getElem? (i := 611) (by decide +kernel)⟩
def lw_privs_1 : List (MethodName × Nat) := [(⟨"MarkerWalks", "fail", "(I)I"⟩, 11), (⟨"MarkerWalks$Network", "gather", "()V"⟩, 10), (⟨"MarkerWalks$Network", "lead", "(III)V"⟩, 10), (⟨"MarkerWalks$Network", "neighbours", "(I)I"⟩, 10), (⟨"MarkerWalks$Network", "pairsAmong", "(II)I"⟩, 10), (⟨"MarkerWalks$Network", "endsAsSet", "(I)I"⟩, 10), (⟨"MarkerWalks$Tape", "fits", "(I)Z"⟩, 2), (⟨"MarkerWalks$Judge", "weigh", "(II)I"⟩, 4), (⟨"MarkerWalks$Judge", "overLines", "()Z"⟩, 4), (⟨"MarkerWalks", "isOver", "()Z"⟩, 11), (⟨"MarkerWalks$Judge", "spread", "(I)I"⟩, 4), (⟨"MarkerWalks$Judge", "farEnds", "(II)I"⟩, 4), (⟨"MarkerWalks$Planner", "simple", "(II)I"⟩, 3), (⟨"MarkerWalks$Planner", "pairAtMarker", "(I)I"⟩, 3), (⟨"MarkerWalks$Planner", "drawn", "(I)I"⟩, 3), (⟨"MarkerWalks$Planner", "narrowest", "(II)I"⟩, 3)]
theorem lw_r1 : ∀ q ∈ lw_privs_1, lw_okq q := List.forall_mem_cons.mpr ⟨lw_p0, List.forall_mem_cons.mpr ⟨lw_p1, List.forall_mem_cons.mpr ⟨lw_p2, List.forall_mem_cons.mpr ⟨lw_p3, List.forall_mem_cons.mpr ⟨lw_p4, List.forall_mem_cons.mpr ⟨lw_p5, List.forall_mem_cons.mpr ⟨lw_p6, List.forall_mem_cons.mpr ⟨lw_p7, List.forall_mem_cons.mpr ⟨lw_p8, List.forall_mem_cons.mpr ⟨lw_p9, List.forall_mem_cons.mpr ⟨lw_p10, List.forall_mem_cons.mpr ⟨lw_p11, List.forall_mem_cons.mpr ⟨lw_p12, List.forall_mem_cons.mpr ⟨lw_p13, List.forall_mem_cons.mpr ⟨lw_p14, List.forall_mem_cons.mpr ⟨lw_p15, fun _ h => absurd h List.not_mem_nil⟩⟩⟩⟩⟩⟩⟩⟩⟩⟩⟩⟩⟩⟩⟩⟩
theorem lw_p16 : lw_okq (⟨"MarkerWalks$Planner", "slowest", "(II)I"⟩, 3) := ⟨⟨by decide +kernel, by decide +kernel⟩, List.mem_of_getElem? (i := 93) (by decide +kernel), List.mem_of_getElem? (i := 615) (by decide +kernel), List.mem_of_getElem? (i := 616) (by decide +kernel)⟩
theorem lw_p17 : lw_okq (⟨"MarkerWalks$Tree", "grow", "(III)V"⟩, 7) := ⟨⟨by decide +kernel, by decide +kernel⟩, List.mem_of_getElem? (i := 110) (by decide +kernel), List.mem_of_getElem? (i := 637) (by decide +kernel), List.mem_of_getElem? (i := 638) (by decide +kernel)⟩
theorem lw_p18 : lw_okq (⟨"MarkerWalks", "errorOfNumber", "(II)I"⟩, 11) := ⟨⟨by decide +kernel, by decide +kernel⟩, List.mem_of_getElem? (i := 16) (by decide +kernel), List.mem_of_getElem? (i := 669) (by decide +kernel), List.mem_of_getElem? (i := 670) (by decide +kernel)⟩
theorem lw_p19 : lw_okq (⟨"MarkerWalks", "sheetsThere", "()I"⟩, 11) := ⟨⟨by decide +kernel, by decide +kernel⟩, List.mem_of_getElem? (i := 16) (by decide +kernel), List.mem_of_getElem? (i := 723) (by decide +kernel), List.mem_of_getElem? (i := 724) (by decide +kernel)⟩
theorem lw_p20 : lw_okq (⟨"MarkerWalksModel", "no", "(I)I"⟩, 33) := ⟨⟨by decide +kernel, by decide +kernel⟩, List.mem_of_getElem? (i := 731) (by decide +kernel), List.mem_of_getElem? (i := 846) (by decide +kernel), List.mem_of_getElem? (i := 847) (by decide +kernel)⟩
theorem lw_p21 : lw_okq (⟨"MarkerWalksModel", "isNew", "()V"⟩, 33) := ⟨⟨by decide +kernel, by decide +kernel⟩, List.mem_of_getElem? (i := 731) (by decide +kernel), List.mem_of_getElem? (i := 851) (by decide +kernel), List.mem_of_getElem? (i := 852) (by decide +kernel)⟩
theorem lw_p22 : lw_okq (⟨"MarkerWalksModel", "isPoint", "(I)Z"⟩, 33) := ⟨⟨by decide +kernel, by decide +kernel⟩, List.mem_of_getElem? (i := 731) (by decide +kernel), List.mem_of_getElem? (i := 859) (by decide +kernel), List.mem_of_getElem? (i := 860) (by decide +kernel)⟩
theorem lw_p23 : lw_okq (⟨"MarkerWalksModel", "comes", "(III)V"⟩, 33) := ⟨⟨by decide +kernel, by decide +kernel⟩, List.mem_of_getElem? (i := 731) (by decide +kernel), List.mem_of_getElem? (i := 863) (by decide +kernel), List.mem_of_getElem? (i := 864) (by decide +kernel)⟩
theorem lw_p24 : lw_okq (⟨"MarkerWalksModel", "isLine", "(I)Z"⟩, 33) := ⟨⟨by decide +kernel, by decide +kernel⟩, List.mem_of_getElem? (i := 731) (by decide +kernel), List.mem_of_getElem? (i := 871) (by decide +kernel), List.mem_of_getElem? (i := 872) (by decide +kernel)⟩
theorem lw_p25 : lw_okq (⟨"MarkerWalksModel", "degree", "(II)I"⟩, 33) := ⟨⟨by decide +kernel, by decide +kernel⟩, List.mem_of_getElem? (i := 731) (by decide +kernel), List.mem_of_getElem? (i := 887) (by decide +kernel), List.mem_of_getElem? (i := 888) (by decide +kernel)⟩
theorem lw_p26 : lw_okq (⟨"MarkerWalksModel", "isAt", "(II)Z"⟩, 33) := ⟨⟨by decide +kernel, by decide +kernel⟩, List.mem_of_getElem? (i := 731) (by decide +kernel), List.mem_of_getElem? (i := 891) (by decide +kernel), List.mem_of_getElem? (i := 892) (by decide +kernel)⟩
theorem lw_p27 : lw_okq (⟨"MarkerWalksModel", "otherOf", "(II)I"⟩, 33) := ⟨⟨by decide +kernel, by decide +kernel⟩, List.mem_of_getElem? (i := 731) (by decide +kernel), List.mem_of_getElem? (i := 895) (by decide +kernel), List.mem_of_getElem? (i := 896) (by decide +kernel)⟩
theorem lw_p28 : lw_okq (⟨"MarkerWalksModel", "leads", "(II)Z"⟩, 33) := ⟨⟨by decide +kernel, by decide +kernel⟩, List.mem_of_getElem? (i := 731) (by decide +kernel), List.mem_of_getElem? (i := 899) (by decide +kernel), List.mem_of_getElem? (i := 900) (by decide +kernel)⟩
theorem lw_p29 : lw_okq (⟨"MarkerWalksModel", "sidesFrom", "(II)Z"⟩, 33) := ⟨⟨by decide +kernel, by decide +kernel⟩, List.mem_of_getElem? (i := 731) (by decide +kernel), List.mem_of_getElem? (i := 907) (by decide +kernel), List.mem_of_getElem? (i := 908) (by decide +kernel)⟩
theorem lw_p30 : lw_okq (⟨"MarkerWalksModel", "all", "()I"⟩, 33) := ⟨⟨by decide +kernel, by decide +kernel⟩, List.mem_of_getElem? (i := 731) (by decide +kernel), List.mem_of_getElem? (i := 915) (by decide +kernel), List.mem_of_getElem? (i := 916) (by decide +kernel)⟩
theorem lw_p31 : lw_okq (⟨"MarkerWalksModel", "pairingOf", "(I)I"⟩, 33) := ⟨⟨by decide +kernel, by decide +kernel⟩, List.mem_of_getElem? (i := 731) (by decide +kernel), List.mem_of_getElem? (i := 919) (by decide +kernel), List.mem_of_getElem? (i := 920) (by decide +kernel)⟩
def lw_privs_2 : List (MethodName × Nat) := [(⟨"MarkerWalks$Planner", "slowest", "(II)I"⟩, 3), (⟨"MarkerWalks$Tree", "grow", "(III)V"⟩, 7), (⟨"MarkerWalks", "errorOfNumber", "(II)I"⟩, 11), (⟨"MarkerWalks", "sheetsThere", "()I"⟩, 11), (⟨"MarkerWalksModel", "no", "(I)I"⟩, 33), (⟨"MarkerWalksModel", "isNew", "()V"⟩, 33), (⟨"MarkerWalksModel", "isPoint", "(I)Z"⟩, 33), (⟨"MarkerWalksModel", "comes", "(III)V"⟩, 33), (⟨"MarkerWalksModel", "isLine", "(I)Z"⟩, 33), (⟨"MarkerWalksModel", "degree", "(II)I"⟩, 33), (⟨"MarkerWalksModel", "isAt", "(II)Z"⟩, 33), (⟨"MarkerWalksModel", "otherOf", "(II)I"⟩, 33), (⟨"MarkerWalksModel", "leads", "(II)Z"⟩, 33), (⟨"MarkerWalksModel", "sidesFrom", "(II)Z"⟩, 33), (⟨"MarkerWalksModel", "all", "()I"⟩, 33), (⟨"MarkerWalksModel", "pairingOf", "(I)I"⟩, 33)]
theorem lw_r2 : ∀ q ∈ lw_privs_2, lw_okq q := List.forall_mem_cons.mpr ⟨lw_p16, List.forall_mem_cons.mpr ⟨lw_p17, List.forall_mem_cons.mpr ⟨lw_p18, List.forall_mem_cons.mpr ⟨lw_p19, List.forall_mem_cons.mpr ⟨lw_p20, List.forall_mem_cons.mpr ⟨lw_p21, List.forall_mem_cons.mpr ⟨lw_p22, List.forall_mem_cons.mpr ⟨lw_p23, List.forall_mem_cons.mpr ⟨lw_p24, List.forall_mem_cons.mpr ⟨lw_p25, List.forall_mem_cons.mpr ⟨lw_p26, List.forall_mem_cons.mpr ⟨lw_p27, List.forall_mem_cons.mpr ⟨lw_p28, List.forall_mem_cons.mpr ⟨lw_p29, List.forall_mem_cons.mpr ⟨lw_p30, List.forall_mem_cons.mpr ⟨lw_p31, fun _ h => absurd h List.not_mem_nil⟩⟩⟩⟩⟩⟩⟩⟩⟩⟩⟩⟩⟩⟩⟩⟩
theorem lw_p32 : lw_okq (⟨"MarkerWalksModel", "metBy", "(II)I"⟩, 33) := ⟨⟨by decide +kernel, by decide +kernel⟩, List.mem_of_getElem? (i := 731) (by decide +kernel), List.mem_of_getElem? (i := 926) (by decide +kernel), List.mem_of_getElem? (i := 927) (by decide +kernel)⟩
theorem lw_p33 : lw_okq (⟨"MarkerWalksModel", "isKernel", "(I)Z"⟩, 33) := ⟨⟨by decide +kernel, by decide +kernel⟩, List.mem_of_getElem? (i := 731) (by decide +kernel), List.mem_of_getElem? (i := 941) (by decide +kernel), List.mem_of_getElem? (i := 942) (by decide +kernel)⟩
theorem lw_p34 : lw_okq (⟨"MarkerWalksModel", "faultOf", "()I"⟩, 33) := ⟨⟨by decide +kernel, by decide +kernel⟩, List.mem_of_getElem? (i := 731) (by decide +kernel), List.mem_of_getElem? (i := 954) (by decide +kernel), List.mem_of_getElem? (i := 955) (by decide +kernel)⟩
theorem lw_p35 : lw_okq (⟨"MarkerWalksModel", "here", "(I)I"⟩, 33) := ⟨⟨by decide +kernel, by decide +kernel⟩, List.mem_of_getElem? (i := 731) (by decide +kernel), List.mem_of_getElem? (i := 958) (by decide +kernel), List.mem_of_getElem? (i := 959) (by decide +kernel)⟩
theorem lw_p36 : lw_okq (⟨"MarkerWalksModel", "beginsAt", "(II)V"⟩, 33) := ⟨⟨by decide +kernel, by decide +kernel⟩, List.mem_of_getElem? (i := 731) (by decide +kernel), List.mem_of_getElem? (i := 966) (by decide +kernel), List.mem_of_getElem? (i := 967) (by decide +kernel)⟩
theorem lw_p37 : lw_okq (⟨"MarkerWalksModel", "setNow", "()I"⟩, 33) := ⟨⟨by decide +kernel, by decide +kernel⟩, List.mem_of_getElem? (i := 731) (by decide +kernel), List.mem_of_getElem? (i := 970) (by decide +kernel), List.mem_of_getElem? (i := 971) (by decide +kernel)⟩
theorem lw_p38 : lw_okq (⟨"MarkerWalksModel", "isByLines", "()Z"⟩, 33) := ⟨⟨by decide +kernel, by decide +kernel⟩, List.mem_of_getElem? (i := 731) (by decide +kernel), List.mem_of_getElem? (i := 974) (by decide +kernel), List.mem_of_getElem? (i := 975) (by decide +kernel)⟩
theorem lw_p39 : lw_okq (⟨"MarkerWalksModel", "winsAt", "(II)Z"⟩, 33) := ⟨⟨by decide +kernel, by decide +kernel⟩, List.mem_of_getElem? (i := 731) (by decide +kernel), List.mem_of_getElem? (i := 978) (by decide +kernel), List.mem_of_getElem? (i := 979) (by decide +kernel)⟩
theorem lw_p40 : lw_okq (⟨"MarkerWalksModel", "tables", "()V"⟩, 33) := ⟨⟨by decide +kernel, by decide +kernel⟩, List.mem_of_getElem? (i := 731) (by decide +kernel), List.mem_of_getElem? (i := 982) (by decide +kernel), List.mem_of_getElem? (i := 983) (by decide +kernel)⟩
theorem lw_p41 : lw_okq (⟨"MarkerWalksModel", "worthAt", "(II)I"⟩, 33) := ⟨⟨by decide +kernel, by decide +kernel⟩, List.mem_of_getElem? (i := 731) (by decide +kernel), List.mem_of_getElem? (i := 986) (by decide +kernel), List.mem_of_getElem? (i := 987) (by decide +kernel)⟩
theorem lw_p42 : lw_okq (⟨"MarkerWalksModel", "isMove", "(III)Z"⟩, 33) := ⟨⟨by decide +kernel, by decide +kernel⟩, List.mem_of_getElem? (i := 731) (by decide +kernel), List.mem_of_getElem? (i := 990) (by decide +kernel), List.mem_of_getElem? (i := 991) (by decide +kernel)⟩
theorem lw_p43 : lw_okq (⟨"MarkerWalksModel", "isByWays", "()Z"⟩, 33) := ⟨⟨by decide +kernel, by decide +kernel⟩, List.mem_of_getElem? (i := 731) (by decide +kernel), List.mem_of_getElem? (i := 994) (by decide +kernel), List.mem_of_getElem? (i := 995) (by decide +kernel)⟩
theorem lw_p44 : lw_okq (⟨"MarkerWalksModel", "setBehind", "(III)I"⟩, 33) := ⟨⟨by decide +kernel, by decide +kernel⟩, List.mem_of_getElem? (i := 731) (by decide +kernel), List.mem_of_getElem? (i := 998) (by decide +kernel), List.mem_of_getElem? (i := 999) (by decide +kernel)⟩
theorem lw_p45 : lw_okq (⟨"MarkerWalksModel", "isOver", "()Z"⟩, 33) := ⟨⟨by decide +kernel, by decide +kernel⟩, List.mem_of_getElem? (i := 731) (by decide +kernel), List.mem_of_getElem? (i := 1006) (by decide +kernel), List.mem_of_getElem? (i := 1007) (by decide +kernel)⟩
theorem lw_p46 : lw_okq (⟨"MarkerWalksModel", "movesNow", "()I"⟩, 33) := ⟨⟨by decide +kernel, by decide +kernel⟩, List.mem_of_getElem? (i := 731) (by decide +kernel), List.mem_of_getElem? (i := 1010) (by decide +kernel), List.mem_of_getElem? (i := 1011) (by decide +kernel)⟩
theorem lw_p47 : lw_okq (⟨"MarkerWalksModel", "movesAt", "(II)I"⟩, 33) := ⟨⟨by decide +kernel, by decide +kernel⟩, List.mem_of_getElem? (i := 731) (by decide +kernel), List.mem_of_getElem? (i := 1014) (by decide +kernel), List.mem_of_getElem? (i := 1015) (by decide +kernel)⟩
def lw_privs_3 : List (MethodName × Nat) := [(⟨"MarkerWalksModel", "metBy", "(II)I"⟩, 33), (⟨"MarkerWalksModel", "isKernel", "(I)Z"⟩, 33), (⟨"MarkerWalksModel", "faultOf", "()I"⟩, 33), (⟨"MarkerWalksModel", "here", "(I)I"⟩, 33), (⟨"MarkerWalksModel", "beginsAt", "(II)V"⟩, 33), (⟨"MarkerWalksModel", "setNow", "()I"⟩, 33), (⟨"MarkerWalksModel", "isByLines", "()Z"⟩, 33), (⟨"MarkerWalksModel", "winsAt", "(II)Z"⟩, 33), (⟨"MarkerWalksModel", "tables", "()V"⟩, 33), (⟨"MarkerWalksModel", "worthAt", "(II)I"⟩, 33), (⟨"MarkerWalksModel", "isMove", "(III)Z"⟩, 33), (⟨"MarkerWalksModel", "isByWays", "()Z"⟩, 33), (⟨"MarkerWalksModel", "setBehind", "(III)I"⟩, 33), (⟨"MarkerWalksModel", "isOver", "()Z"⟩, 33), (⟨"MarkerWalksModel", "movesNow", "()I"⟩, 33), (⟨"MarkerWalksModel", "movesAt", "(II)I"⟩, 33)]
theorem lw_r3 : ∀ q ∈ lw_privs_3, lw_okq q := List.forall_mem_cons.mpr ⟨lw_p32, List.forall_mem_cons.mpr ⟨lw_p33, List.forall_mem_cons.mpr ⟨lw_p34, List.forall_mem_cons.mpr ⟨lw_p35, List.forall_mem_cons.mpr ⟨lw_p36, List.forall_mem_cons.mpr ⟨lw_p37, List.forall_mem_cons.mpr ⟨lw_p38, List.forall_mem_cons.mpr ⟨lw_p39, List.forall_mem_cons.mpr ⟨lw_p40, List.forall_mem_cons.mpr ⟨lw_p41, List.forall_mem_cons.mpr ⟨lw_p42, List.forall_mem_cons.mpr ⟨lw_p43, List.forall_mem_cons.mpr ⟨lw_p44, List.forall_mem_cons.mpr ⟨lw_p45, List.forall_mem_cons.mpr ⟨lw_p46, List.forall_mem_cons.mpr ⟨lw_p47, fun _ h => absurd h List.not_mem_nil⟩⟩⟩⟩⟩⟩⟩⟩⟩⟩⟩⟩⟩⟩⟩⟩
theorem lw_p48 : lw_okq (⟨"MarkerWalksModel", "goes", "(I)V"⟩, 33) := ⟨⟨by decide +kernel, by decide +kernel⟩, List.mem_of_getElem? (i := 731) (by decide +kernel), List.mem_of_getElem? (i := 1018) (by decide +kernel), List.mem_of_getElem? (i := 1019) (by decide +kernel)⟩
theorem lw_p49 : lw_okq (⟨"MarkerWalksModel", "goesBack", "()V"⟩, 33) := ⟨⟨by decide +kernel, by decide +kernel⟩, List.mem_of_getElem? (i := 731) (by decide +kernel), List.mem_of_getElem? (i := 1026) (by decide +kernel), List.mem_of_getElem? (i := 1027) (by decide +kernel)⟩
theorem lw_p50 : lw_okq (⟨"MarkerWalksModel", "mover", "()I"⟩, 33) := ⟨⟨by decide +kernel, by decide +kernel⟩, List.mem_of_getElem? (i := 731) (by decide +kernel), List.mem_of_getElem? (i := 1034) (by decide +kernel), List.mem_of_getElem? (i := 1035) (by decide +kernel)⟩
theorem lw_p51 : lw_okq (⟨"MarkerWalksModel", "winner", "()I"⟩, 33) := ⟨⟨by decide +kernel, by decide +kernel⟩, List.mem_of_getElem? (i := 731) (by decide +kernel), List.mem_of_getElem? (i := 1038) (by decide +kernel), List.mem_of_getElem? (i := 1039) (by decide +kernel)⟩
theorem lw_p52 : lw_okq (⟨"MarkerWalksModel", "winning", "()I"⟩, 33) := ⟨⟨by decide +kernel, by decide +kernel⟩, List.mem_of_getElem? (i := 731) (by decide +kernel), List.mem_of_getElem? (i := 1050) (by decide +kernel), List.mem_of_getElem? (i := 1051) (by decide +kernel)⟩
theorem lw_p53 : lw_okq (⟨"MarkerWalksModel", "winsBehind", "(I)Z"⟩, 33) := ⟨⟨by decide +kernel, by decide +kernel⟩, List.mem_of_getElem? (i := 731) (by decide +kernel), List.mem_of_getElem? (i := 1054) (by decide +kernel), List.mem_of_getElem? (i := 1055) (by decide +kernel)⟩
theorem lw_p54 : lw_okq (⟨"MarkerWalksModel", "longAt", "(II)I"⟩, 33) := ⟨⟨by decide +kernel, by decide +kernel⟩, List.mem_of_getElem? (i := 731) (by decide +kernel), List.mem_of_getElem? (i := 1062) (by decide +kernel), List.mem_of_getElem? (i := 1063) (by decide +kernel)⟩
theorem lw_p55 : lw_okq (⟨"MarkerWalksModel", "nimAt", "(II)I"⟩, 33) := ⟨⟨by decide +kernel, by decide +kernel⟩, List.mem_of_getElem? (i := 731) (by decide +kernel), List.mem_of_getElem? (i := 1066) (by decide +kernel), List.mem_of_getElem? (i := 1067) (by decide +kernel)⟩
theorem lw_p56 : lw_okq (⟨"MarkerWalksModel", "reaches", "(II)I"⟩, 33) := ⟨⟨by decide +kernel, by decide +kernel⟩, List.mem_of_getElem? (i := 731) (by decide +kernel), List.mem_of_getElem? (i := 1074) (by decide +kernel), List.mem_of_getElem? (i := 1075) (by decide +kernel)⟩
theorem lw_p57 : lw_okq (⟨"MarkerWalksModel", "planned", "(I)I"⟩, 33) := ⟨⟨by decide +kernel, by decide +kernel⟩, List.mem_of_getElem? (i := 731) (by decide +kernel), List.mem_of_getElem? (i := 1089) (by decide +kernel), List.mem_of_getElem? (i := 1090) (by decide +kernel)⟩
theorem lw_p58 : lw_okq (⟨"MarkerWalksModel", "simple", "(I)I"⟩, 33) := ⟨⟨by decide +kernel, by decide +kernel⟩, List.mem_of_getElem? (i := 731) (by decide +kernel), List.mem_of_getElem? (i := 1093) (by decide +kernel), List.mem_of_getElem? (i := 1094) (by decide +kernel)⟩
theorem lw_p59 : lw_okq (⟨"MarkerWalksModel", "paired", "(I)I"⟩, 33) := ⟨⟨by decide +kernel, by decide +kernel⟩, List.mem_of_getElem? (i := 731) (by decide +kernel), List.mem_of_getElem? (i := 1103) (by decide +kernel), List.mem_of_getElem? (i := 1104) (by decide +kernel)⟩
theorem lw_p60 : lw_okq (⟨"MarkerWalksModel", "drawn", "(I)I"⟩, 33) := ⟨⟨by decide +kernel, by decide +kernel⟩, List.mem_of_getElem? (i := 731) (by decide +kernel), List.mem_of_getElem? (i := 1107) (by decide +kernel), List.mem_of_getElem? (i := 1108) (by decide +kernel)⟩
theorem lw_p61 : lw_okq (⟨"MarkerWalksModel", "bestBy", "(IZ)I"⟩, 33) := ⟨⟨by decide +kernel, by decide +kernel⟩, List.mem_of_getElem? (i := 731) (by decide +kernel), List.mem_of_getElem? (i := 1112) (by decide +kernel), List.mem_of_getElem? (i := 1113) (by decide +kernel)⟩
theorem lw_p62 : lw_okq (⟨"MarkerWalksModel", "plays", "(III)I"⟩, 33) := ⟨⟨by decide +kernel, by decide +kernel⟩, List.mem_of_getElem? (i := 731) (by decide +kernel), List.mem_of_getElem? (i := 1120) (by decide +kernel), List.mem_of_getElem? (i := 1121) (by decide +kernel)⟩
theorem lw_p63 : lw_okq (⟨"MarkerWalksModel", "isGrown", "()Z"⟩, 33) := ⟨⟨by decide +kernel, by decide +kernel⟩, List.mem_of_getElem? (i := 731) (by decide +kernel), List.mem_of_getElem? (i := 1132) (by decide +kernel), List.mem_of_getElem? (i := 1133) (by decide +kernel)⟩
def lw_privs_4 : List (MethodName × Nat) := [(⟨"MarkerWalksModel", "goes", "(I)V"⟩, 33), (⟨"MarkerWalksModel", "goesBack", "()V"⟩, 33), (⟨"MarkerWalksModel", "mover", "()I"⟩, 33), (⟨"MarkerWalksModel", "winner", "()I"⟩, 33), (⟨"MarkerWalksModel", "winning", "()I"⟩, 33), (⟨"MarkerWalksModel", "winsBehind", "(I)Z"⟩, 33), (⟨"MarkerWalksModel", "longAt", "(II)I"⟩, 33), (⟨"MarkerWalksModel", "nimAt", "(II)I"⟩, 33), (⟨"MarkerWalksModel", "reaches", "(II)I"⟩, 33), (⟨"MarkerWalksModel", "planned", "(I)I"⟩, 33), (⟨"MarkerWalksModel", "simple", "(I)I"⟩, 33), (⟨"MarkerWalksModel", "paired", "(I)I"⟩, 33), (⟨"MarkerWalksModel", "drawn", "(I)I"⟩, 33), (⟨"MarkerWalksModel", "bestBy", "(IZ)I"⟩, 33), (⟨"MarkerWalksModel", "plays", "(III)I"⟩, 33), (⟨"MarkerWalksModel", "isGrown", "()Z"⟩, 33)]
theorem lw_r4 : ∀ q ∈ lw_privs_4, lw_okq q := List.forall_mem_cons.mpr ⟨lw_p48, List.forall_mem_cons.mpr ⟨lw_p49, List.forall_mem_cons.mpr ⟨lw_p50, List.forall_mem_cons.mpr ⟨lw_p51, List.forall_mem_cons.mpr ⟨lw_p52, List.forall_mem_cons.mpr ⟨lw_p53, List.forall_mem_cons.mpr ⟨lw_p54, List.forall_mem_cons.mpr ⟨lw_p55, List.forall_mem_cons.mpr ⟨lw_p56, List.forall_mem_cons.mpr ⟨lw_p57, List.forall_mem_cons.mpr ⟨lw_p58, List.forall_mem_cons.mpr ⟨lw_p59, List.forall_mem_cons.mpr ⟨lw_p60, List.forall_mem_cons.mpr ⟨lw_p61, List.forall_mem_cons.mpr ⟨lw_p62, List.forall_mem_cons.mpr ⟨lw_p63, fun _ h => absurd h List.not_mem_nil⟩⟩⟩⟩⟩⟩⟩⟩⟩⟩⟩⟩⟩⟩⟩⟩
theorem lw_p64 : lw_okq (⟨"MarkerWalksModel", "grows", "(IIZII)V"⟩, 33) := ⟨⟨by decide +kernel, by decide +kernel⟩, List.mem_of_getElem? (i := 731) (by decide +kernel), List.mem_of_getElem? (i := 1136) (by decide +kernel), List.mem_of_getElem? (i := 1137) (by decide +kernel)⟩
theorem lw_p65 : lw_okq (⟨"MarkerWalksModel", "wrongCell", "(II)I"⟩, 33) := ⟨⟨by decide +kernel, by decide +kernel⟩, List.mem_of_getElem? (i := 731) (by decide +kernel), List.mem_of_getElem? (i := 1155) (by decide +kernel), List.mem_of_getElem? (i := 1156) (by decide +kernel)⟩
theorem lw_p66 : lw_okq (⟨"MarkerWalksModel", "lays", "(III)V"⟩, 33) := ⟨⟨by decide +kernel, by decide +kernel⟩, List.mem_of_getElem? (i := 731) (by decide +kernel), List.mem_of_getElem? (i := 1159) (by decide +kernel), List.mem_of_getElem? (i := 1160) (by decide +kernel)⟩
theorem lw_p67 : lw_okq (⟨"MarkerWalksModel", "sheetsThere", "()I"⟩, 33) := ⟨⟨by decide +kernel, by decide +kernel⟩, List.mem_of_getElem? (i := 731) (by decide +kernel), List.mem_of_getElem? (i := 1195) (by decide +kernel), List.mem_of_getElem? (i := 1196) (by decide +kernel)⟩
def lw_privs_5 : List (MethodName × Nat) := [(⟨"MarkerWalksModel", "grows", "(IIZII)V"⟩, 33), (⟨"MarkerWalksModel", "wrongCell", "(II)I"⟩, 33), (⟨"MarkerWalksModel", "lays", "(III)V"⟩, 33), (⟨"MarkerWalksModel", "sheetsThere", "()I"⟩, 33)]
theorem lw_r5 : ∀ q ∈ lw_privs_5, lw_okq q := List.forall_mem_cons.mpr ⟨lw_p64, List.forall_mem_cons.mpr ⟨lw_p65, List.forall_mem_cons.mpr ⟨lw_p66, List.forall_mem_cons.mpr ⟨lw_p67, fun _ h => absurd h List.not_mem_nil⟩⟩⟩⟩
def lw_privs : List (MethodName × Nat) := lw_privs_1 ++ (lw_privs_2 ++ (lw_privs_3 ++ (lw_privs_4 ++ (lw_privs_5))))
def lw_tbl : List Cond := k2_sels lw_privs ++ tables_1
theorem lw_privs_ok : ∀ q ∈ lw_privs, lw_okq q := by
  show ∀ q ∈ lw_privs_1 ++ (lw_privs_2 ++ (lw_privs_3 ++ (lw_privs_4 ++ (lw_privs_5)))), lw_okq q
  exact List.forall_mem_append.mpr ⟨lw_r1, List.forall_mem_append.mpr ⟨lw_r2, List.forall_mem_append.mpr ⟨lw_r3, List.forall_mem_append.mpr ⟨lw_r4, lw_r5⟩⟩⟩⟩
-- ===== end of PART A; then your names; then what follows =====
def RX0 : String := "MarkerWalks$Game"
def TX0 : u_T := fun k => match k with
  | 0 => ("MarkerWalks$Game", "on", "Z", false)
  | 1 => ("MarkerWalks$Game", "rule", "I", false)
  | 2 => ("MarkerWalks$Game", "made", "I", false)
  | 3 => ("MarkerWalks$Game", "taken", "[I", true)
  | _ => ("MarkerWalks$Game", "stands", "[I", true)
def tyX0 : Nat → FieldType := fun k => match k with
  | 0 => .boolean
  | 1 => .int
  | 2 => .int
  | 3 => .array .int
  | _ => .array .int
abbrev wsX00 : List Cond := u_ws RX0 TX0 5
theorem nmX0 : ∀ a, a < 5 → ∀ b, b < 5 → a ≠ b → (TX0 a).2.1 ≠ (TX0 b).2.1 := by decide +kernel
theorem tyX0_ok : ∀ k, k < 5 → parseFieldDescriptor (TX0 k).2.2.1 = some (tyX0 k) := by decide +kernel
abbrev cX0_init : ByteArray := prog_2_method_1_code
def yX0_init : MethodName := ⟨RX0, "<init>", "()V"⟩
abbrev cX0_start : ByteArray := prog_2_method_2_code
def yX0_start : MethodName := ⟨RX0, "start", "(II)V"⟩
abbrev cX0_stand : ByteArray := prog_2_method_3_code
def yX0_stand : MethodName := ⟨RX0, "stand", "()I"⟩
abbrev cX0_advance : ByteArray := prog_2_method_4_code
def yX0_advance : MethodName := ⟨RX0, "advance", "(II)V"⟩
def RX1 : String := "MarkerWalks$Judge"
def TX1 : u_T := fun k => match k with
  | 0 => ("MarkerWalks$Judge", "net", "LMarkerWalks$Network;", true)
  | 1 => ("MarkerWalks$Judge", "found", "[I", true)
  | 2 => ("MarkerWalks$Judge", "turn", "I", false)
  | _ => ("MarkerWalks$Judge", "rule", "I", false)
def tyX1 : Nat → FieldType := fun k => match k with
  | 0 => .object "MarkerWalks$Network"
  | 1 => .array .int
  | 2 => .int
  | _ => .int
abbrev wsX10 : List Cond := u_ws RX1 TX1 4
theorem nmX1 : ∀ a, a < 4 → ∀ b, b < 4 → a ≠ b → (TX1 a).2.1 ≠ (TX1 b).2.1 := by decide +kernel
theorem tyX1_ok : ∀ k, k < 4 → parseFieldDescriptor (TX1 k).2.2.1 = some (tyX1 k) := by decide +kernel
abbrev cX1_init : ByteArray := prog_3_method_1_code
def yX1_init : MethodName := ⟨RX1, "<init>", "(LMarkerWalks$Network;)V"⟩
abbrev cX1_turnTo : ByteArray := prog_3_method_2_code
def yX1_turnTo : MethodName := ⟨RX1, "turnTo", "(I)V"⟩
abbrev cX1_movesFrom : ByteArray := prog_3_method_3_code
def yX1_movesFrom : MethodName := ⟨RX1, "movesFrom", "(I)I"⟩
abbrev cX1_overLines : ByteArray := prog_3_method_4_code
def yX1_overLines : MethodName := ⟨RX1, "overLines", "()Z"⟩
abbrev cX1_behind : ByteArray := prog_3_method_5_code
def yX1_behind : MethodName := ⟨RX1, "behind", "(II)I"⟩
abbrev cX1_wins : ByteArray := prog_3_method_6_code
def yX1_wins : MethodName := ⟨RX1, "wins", "(I)Z"⟩
abbrev cX1_winner : ByteArray := prog_3_method_7_code
def yX1_winner : MethodName := ⟨RX1, "winner", "(II)I"⟩
abbrev cX1_lengthFrom : ByteArray := prog_3_method_8_code
def yX1_lengthFrom : MethodName := ⟨RX1, "lengthFrom", "(I)I"⟩
abbrev cX1_nimFrom : ByteArray := prog_3_method_9_code
def yX1_nimFrom : MethodName := ⟨RX1, "nimFrom", "(I)I"⟩
abbrev cX1_winningFrom : ByteArray := prog_3_method_10_code
def yX1_winningFrom : MethodName := ⟨RX1, "winningFrom", "(I)I"⟩
abbrev cX1_weigh : ByteArray := prog_3_method_11_code
def yX1_weigh : MethodName := ⟨RX1, "weigh", "(II)I"⟩
abbrev cX1_joined : ByteArray := prog_3_method_12_code
def yX1_joined : MethodName := ⟨RX1, "joined", "(III)I"⟩
abbrev cX1_winsAs : ByteArray := prog_3_method_13_code
def yX1_winsAs : MethodName := ⟨RX1, "winsAs", "(I)Z"⟩
abbrev cX1_lengthAs : ByteArray := prog_3_method_14_code
def yX1_lengthAs : MethodName := ⟨RX1, "lengthAs", "(I)I"⟩
abbrev cX1_nimAs : ByteArray := prog_3_method_15_code
def yX1_nimAs : MethodName := ⟨RX1, "nimAs", "(I)I"⟩
abbrev cX1_reachFrom : ByteArray := prog_3_method_16_code
def yX1_reachFrom : MethodName := ⟨RX1, "reachFrom", "(I)I"⟩
abbrev cX1_spread : ByteArray := prog_3_method_17_code
def yX1_spread : MethodName := ⟨RX1, "spread", "(I)I"⟩
abbrev cX1_farEnds : ByteArray := prog_3_method_18_code
def yX1_farEnds : MethodName := ⟨RX1, "farEnds", "(II)I"⟩
def RX2 : String := "MarkerWalks$Network"
def TX2 : u_T := fun k => match k with
  | 0 => ("MarkerWalks$Network", "size", "I", false)
  | 1 => ("MarkerWalks$Network", "lines", "I", false)
  | 2 => ("MarkerWalks$Network", "from", "[I", true)
  | 3 => ("MarkerWalks$Network", "to", "[I", true)
  | 4 => ("MarkerWalks$Network", "ways", "[I", true)
  | 5 => ("MarkerWalks$Network", "touching", "[I", true)
  | 6 => ("MarkerWalks$Network", "leaving", "[I", true)
  | 7 => ("MarkerWalks$Network", "coming", "[I", true)
  | 8 => ("MarkerWalks$Network", "beside", "[I", true)
  | _ => ("MarkerWalks$Network", "ahead", "[I", true)
def tyX2 : Nat → FieldType := fun k => match k with
  | 0 => .int
  | 1 => .int
  | 2 => .array .int
  | 3 => .array .int
  | 4 => .array .int
  | 5 => .array .int
  | 6 => .array .int
  | 7 => .array .int
  | 8 => .array .int
  | _ => .array .int
abbrev wsX20 : List Cond := u_ws RX2 TX2 10
theorem nmX2 : ∀ a, a < 10 → ∀ b, b < 10 → a ≠ b → (TX2 a).2.1 ≠ (TX2 b).2.1 := by decide +kernel
theorem tyX2_ok : ∀ k, k < 10 → parseFieldDescriptor (TX2 k).2.2.1 = some (tyX2 k) := by decide +kernel
abbrev cX2_init : ByteArray := prog_4_method_1_code
def yX2_init : MethodName := ⟨RX2, "<init>", "()V"⟩
abbrev cX2_hasPoint : ByteArray := prog_4_method_2_code
def yX2_hasPoint : MethodName := ⟨RX2, "hasPoint", "(I)Z"⟩
abbrev cX2_hasLine : ByteArray := prog_4_method_3_code
def yX2_hasLine : MethodName := ⟨RX2, "hasLine", "(I)Z"⟩
abbrev cX2_everyPoint : ByteArray := prog_4_method_4_code
def yX2_everyPoint : MethodName := ⟨RX2, "everyPoint", "()I"⟩
abbrev cX2_clear : ByteArray := prog_4_method_5_code
def yX2_clear : MethodName := ⟨RX2, "clear", "(I)V"⟩
abbrev cX2_join : ByteArray := prog_4_method_6_code
def yX2_join : MethodName := ⟨RX2, "join", "(III)V"⟩
abbrev cX2_turn : ByteArray := prog_4_method_7_code
def yX2_turn : MethodName := ⟨RX2, "turn", "(II)V"⟩
abbrev cX2_remove : ByteArray := prog_4_method_8_code
def yX2_remove : MethodName := ⟨RX2, "remove", "(I)V"⟩
abbrev cX2_become : ByteArray := prog_4_method_9_code
def yX2_become : MethodName := ⟨RX2, "become", "(LMarkerWalks$Network;)V"⟩
abbrev cX2_gather : ByteArray := prog_4_method_10_code
def yX2_gather : MethodName := ⟨RX2, "gather", "()V"⟩
abbrev cX2_lead : ByteArray := prog_4_method_11_code
def yX2_lead : MethodName := ⟨RX2, "lead", "(III)V"⟩
abbrev cX2_degree : ByteArray := prog_4_method_12_code
def yX2_degree : MethodName := ⟨RX2, "degree", "(II)I"⟩
abbrev cX2_otherEnd : ByteArray := prog_4_method_13_code
def yX2_otherEnd : MethodName := ⟨RX2, "otherEnd", "(II)I"⟩
abbrev cX2_endsAsSet : ByteArray := prog_4_method_14_code
def yX2_endsAsSet : MethodName := ⟨RX2, "endsAsSet", "(I)I"⟩
abbrev cX2_sideZero : ByteArray := prog_4_method_15_code
def yX2_sideZero : MethodName := ⟨RX2, "sideZero", "()I"⟩
abbrev cX2_neighbours : ByteArray := prog_4_method_16_code
def yX2_neighbours : MethodName := ⟨RX2, "neighbours", "(I)I"⟩
abbrev cX2_isKernel : ByteArray := prog_4_method_17_code
def yX2_isKernel : MethodName := ⟨RX2, "isKernel", "(I)Z"⟩
abbrev cX2_mostPairs : ByteArray := prog_4_method_18_code
def yX2_mostPairs : MethodName := ⟨RX2, "mostPairs", "(I)I"⟩
abbrev cX2_pairsAmong : ByteArray := prog_4_method_19_code
def yX2_pairsAmong : MethodName := ⟨RX2, "pairsAmong", "(II)I"⟩
abbrev cX2_leastPairing : ByteArray := prog_4_method_20_code
def yX2_leastPairing : MethodName := ⟨RX2, "leastPairing", "(I)I"⟩
abbrev cX2_neededPoints : ByteArray := prog_4_method_21_code
def yX2_neededPoints : MethodName := ⟨RX2, "neededPoints", "()I"⟩
def RX3 : String := "MarkerWalks$Planner"
def TX3 : u_T := fun k => match k with
  | 0 => ("MarkerWalks$Planner", "net", "LMarkerWalks$Network;", true)
  | 1 => ("MarkerWalks$Planner", "judge", "LMarkerWalks$Judge;", true)
  | _ => ("MarkerWalks$Planner", "z", "I", false)
def tyX3 : Nat → FieldType := fun k => match k with
  | 0 => .object "MarkerWalks$Network"
  | 1 => .object "MarkerWalks$Judge"
  | _ => .int
abbrev wsX30 : List Cond := u_ws RX3 TX3 3
theorem nmX3 : ∀ a, a < 3 → ∀ b, b < 3 → a ≠ b → (TX3 a).2.1 ≠ (TX3 b).2.1 := by decide +kernel
theorem tyX3_ok : ∀ k, k < 3 → parseFieldDescriptor (TX3 k).2.2.1 = some (tyX3 k) := by decide +kernel
abbrev cX3_init : ByteArray := prog_5_method_1_code
def yX3_init : MethodName := ⟨RX3, "<init>", "(LMarkerWalks$Network;LMarkerWalks$Judge;)V"⟩
abbrev cX3_advice : ByteArray := prog_5_method_2_code
def yX3_advice : MethodName := ⟨RX3, "advice", "(III)I"⟩
abbrev cX3_simple : ByteArray := prog_5_method_3_code
def yX3_simple : MethodName := ⟨RX3, "simple", "(II)I"⟩
abbrev cX3_least : ByteArray := prog_5_method_4_code
def yX3_least : MethodName := ⟨RX3, "least", "(I)I"⟩
abbrev cX3_greatest : ByteArray := prog_5_method_5_code
def yX3_greatest : MethodName := ⟨RX3, "greatest", "(I)I"⟩
abbrev cX3_pairAtMarker : ByteArray := prog_5_method_6_code
def yX3_pairAtMarker : MethodName := ⟨RX3, "pairAtMarker", "(I)I"⟩
abbrev cX3_drawn : ByteArray := prog_5_method_7_code
def yX3_drawn : MethodName := ⟨RX3, "drawn", "(I)I"⟩
abbrev cX3_narrowest : ByteArray := prog_5_method_8_code
def yX3_narrowest : MethodName := ⟨RX3, "narrowest", "(II)I"⟩
abbrev cX3_slowest : ByteArray := prog_5_method_9_code
def yX3_slowest : MethodName := ⟨RX3, "slowest", "(II)I"⟩
def RX4 : String := "MarkerWalks$Sheet"
def TX4 : u_T := fun k => match k with
  | 0 => ("MarkerWalks$Sheet", "bits", "I", false)
  | 1 => ("MarkerWalks$Sheet", "size", "I", false)
  | _ => ("MarkerWalks$Sheet", "row", "[I", true)
def tyX4 : Nat → FieldType := fun k => match k with
  | 0 => .int
  | 1 => .int
  | _ => .array .int
abbrev wsX40 : List Cond := u_ws RX4 TX4 3
theorem nmX4 : ∀ a, a < 3 → ∀ b, b < 3 → a ≠ b → (TX4 a).2.1 ≠ (TX4 b).2.1 := by decide +kernel
theorem tyX4_ok : ∀ k, k < 3 → parseFieldDescriptor (TX4 k).2.2.1 = some (tyX4 k) := by decide +kernel
abbrev cX4_init : ByteArray := prog_6_method_1_code
def yX4_init : MethodName := ⟨RX4, "<init>", "()V"⟩
abbrev cX4_isMissing : ByteArray := prog_6_method_2_code
def yX4_isMissing : MethodName := ⟨RX4, "isMissing", "()Z"⟩
abbrev cX4_renew : ByteArray := prog_6_method_3_code
def yX4_renew : MethodName := ⟨RX4, "renew", "(II)V"⟩
abbrev cX4_write : ByteArray := prog_6_method_4_code
def yX4_write : MethodName := ⟨RX4, "write", "(II)V"⟩
abbrev cX4_hasRun : ByteArray := prog_6_method_5_code
def yX4_hasRun : MethodName := ⟨RX4, "hasRun", "(II)Z"⟩
def RX5 : String := "MarkerWalks$Stand"
def TX5 : u_T := fun k => match k with
  | _ => ("", "", "", false)
def tyX5 : Nat → FieldType := fun k => match k with
  | _ => .int
abbrev wsX50 : List Cond := u_ws RX5 TX5 0
theorem nmX5 : ∀ a, a < 0 → ∀ b, b < 0 → a ≠ b → (TX5 a).2.1 ≠ (TX5 b).2.1 := by decide +kernel
theorem tyX5_ok : ∀ k, k < 0 → parseFieldDescriptor (TX5 k).2.2.1 = some (tyX5 k) := by decide +kernel
abbrev cX5_atFirst : ByteArray := prog_7_method_2_code
def yX5_atFirst : MethodName := ⟨RX5, "atFirst", "(I)I"⟩
abbrev cX5_marker : ByteArray := prog_7_method_3_code
def yX5_marker : MethodName := ⟨RX5, "marker", "(I)I"⟩
abbrev cX5_met : ByteArray := prog_7_method_4_code
def yX5_met : MethodName := ⟨RX5, "met", "(I)I"⟩
abbrev cX5_gone : ByteArray := prog_7_method_5_code
def yX5_gone : MethodName := ⟨RX5, "gone", "(I)I"⟩
abbrev cX5_markerAndMet : ByteArray := prog_7_method_6_code
def yX5_markerAndMet : MethodName := ⟨RX5, "markerAndMet", "(I)I"⟩
abbrev cX5_withMarker : ByteArray := prog_7_method_7_code
def yX5_withMarker : MethodName := ⟨RX5, "withMarker", "(II)I"⟩
abbrev cX5_behind : ByteArray := prog_7_method_8_code
def yX5_behind : MethodName := ⟨RX5, "behind", "(III)I"⟩
def RX6 : String := "MarkerWalks$Tape"
def TX6 : u_T := fun k => match k with
  | 0 => ("MarkerWalks$Tape", "length", "I", false)
  | _ => ("MarkerWalks$Tape", "bytes", "[I", true)
def tyX6 : Nat → FieldType := fun k => match k with
  | 0 => .int
  | _ => .array .int
abbrev wsX60 : List Cond := u_ws RX6 TX6 2
theorem nmX6 : ∀ a, a < 2 → ∀ b, b < 2 → a ≠ b → (TX6 a).2.1 ≠ (TX6 b).2.1 := by decide +kernel
theorem tyX6_ok : ∀ k, k < 2 → parseFieldDescriptor (TX6 k).2.2.1 = some (tyX6 k) := by decide +kernel
abbrev cX6_init : ByteArray := prog_8_method_1_code
def yX6_init : MethodName := ⟨RX6, "<init>", "()V"⟩
abbrev cX6_add : ByteArray := prog_8_method_2_code
def yX6_add : MethodName := ⟨RX6, "add", "(JI)V"⟩
abbrev cX6_fault : ByteArray := prog_8_method_3_code
def yX6_fault : MethodName := ⟨RX6, "fault", "()I"⟩
abbrev cX6_fits : ByteArray := prog_8_method_4_code
def yX6_fits : MethodName := ⟨RX6, "fits", "(I)Z"⟩
abbrev cX6_isLetter : ByteArray := prog_8_method_5_code
def yX6_isLetter : MethodName := ⟨RX6, "isLetter", "(I)Z"⟩
abbrev cX6_tell : ByteArray := prog_8_method_6_code
def yX6_tell : MethodName := ⟨RX6, "tell", "(LMarkerWalks$Network;)V"⟩
abbrev cX6_wayOf : ByteArray := prog_8_method_7_code
def yX6_wayOf : MethodName := ⟨RX6, "wayOf", "(I)I"⟩
def RX7 : String := "MarkerWalks$Tree"
def TX7 : u_T := fun k => match k with
  | 0 => ("MarkerWalks$Tree", "net", "LMarkerWalks$Network;", true)
  | 1 => ("MarkerWalks$Tree", "judge", "LMarkerWalks$Judge;", true)
  | 2 => ("MarkerWalks$Tree", "ways", "[I", true)
  | 3 => ("MarkerWalks$Tree", "nodes", "I", false)
  | 4 => ("MarkerWalks$Tree", "leaves", "I", false)
  | 5 => ("MarkerWalks$Tree", "deepest", "I", false)
  | _ => ("MarkerWalks$Tree", "overfull", "Z", false)
def tyX7 : Nat → FieldType := fun k => match k with
  | 0 => .object "MarkerWalks$Network"
  | 1 => .object "MarkerWalks$Judge"
  | 2 => .array .int
  | 3 => .int
  | 4 => .int
  | 5 => .int
  | _ => .boolean
abbrev wsX70 : List Cond := u_ws RX7 TX7 7
theorem nmX7 : ∀ a, a < 7 → ∀ b, b < 7 → a ≠ b → (TX7 a).2.1 ≠ (TX7 b).2.1 := by decide +kernel
theorem tyX7_ok : ∀ k, k < 7 → parseFieldDescriptor (TX7 k).2.2.1 = some (tyX7 k) := by decide +kernel
abbrev cX7_init : ByteArray := prog_9_method_1_code
def yX7_init : MethodName := ⟨RX7, "<init>", "(LMarkerWalks$Network;LMarkerWalks$Judge;)V"⟩
abbrev cX7_build : ByteArray := prog_9_method_2_code
def yX7_build : MethodName := ⟨RX7, "build", "(I)Z"⟩
abbrev cX7_grow : ByteArray := prog_9_method_3_code
def yX7_grow : MethodName := ⟨RX7, "grow", "(III)V"⟩
def RX8 : String := "MarkerWalks"
def TX8 : u_T := fun k => match k with
  | 0 => ("MarkerWalks", "net", "LMarkerWalks$Network;", true)
  | 1 => ("MarkerWalks", "kept", "LMarkerWalks$Network;", true)
  | 2 => ("MarkerWalks", "judge", "LMarkerWalks$Judge;", true)
  | 3 => ("MarkerWalks", "planner", "LMarkerWalks$Planner;", true)
  | 4 => ("MarkerWalks", "winnersTree", "LMarkerWalks$Tree;", true)
  | 5 => ("MarkerWalks", "current", "LMarkerWalks$Game;", true)
  | 6 => ("MarkerWalks", "tape", "LMarkerWalks$Tape;", true)
  | 7 => ("MarkerWalks", "sheets", "[LMarkerWalks$Sheet;", true)
  | 8 => ("MarkerWalks", "errors", "[I", true)
  | 9 => ("MarkerWalks", "hasImage", "Z", false)
  | _ => ("MarkerWalks", "keptZ", "I", false)
def tyX8 : Nat → FieldType := fun k => match k with
  | 0 => .object "MarkerWalks$Network"
  | 1 => .object "MarkerWalks$Network"
  | 2 => .object "MarkerWalks$Judge"
  | 3 => .object "MarkerWalks$Planner"
  | 4 => .object "MarkerWalks$Tree"
  | 5 => .object "MarkerWalks$Game"
  | 6 => .object "MarkerWalks$Tape"
  | 7 => .array (.object "MarkerWalks$Sheet")
  | 8 => .array .int
  | 9 => .boolean
  | _ => .int
abbrev wsX80 : List Cond := u_ws RX8 TX8 11
theorem nmX8 : ∀ a, a < 11 → ∀ b, b < 11 → a ≠ b → (TX8 a).2.1 ≠ (TX8 b).2.1 := by decide +kernel
theorem tyX8_ok : ∀ k, k < 11 → parseFieldDescriptor (TX8 k).2.2.1 = some (tyX8 k) := by decide +kernel
abbrev cX8_init : ByteArray := prog_1_method_1_code
def yX8_init : MethodName := ⟨RX8, "<init>", "()V"⟩
abbrev cX8_points : ByteArray := prog_1_method_2_code
def yX8_points : MethodName := ⟨RX8, "points", "(I)I"⟩
abbrev cX8_line : ByteArray := prog_1_method_3_code
def yX8_line : MethodName := ⟨RX8, "line", "(III)I"⟩
abbrev cX8_way : ByteArray := prog_1_method_4_code
def yX8_way : MethodName := ⟨RX8, "way", "(II)I"⟩
abbrev cX8_cut : ByteArray := prog_1_method_5_code
def yX8_cut : MethodName := ⟨RX8, "cut", "(I)I"⟩
abbrev cX8_ends : ByteArray := prog_1_method_6_code
def yX8_ends : MethodName := ⟨RX8, "ends", "(II)I"⟩
abbrev cX8_at : ByteArray := prog_1_method_7_code
def yX8_at : MethodName := ⟨RX8, "at", "(II)I"⟩
abbrev cX8_sides : ByteArray := prog_1_method_8_code
def yX8_sides : MethodName := ⟨RX8, "sides", "()I"⟩
abbrev cX8_pairing : ByteArray := prog_1_method_9_code
def yX8_pairing : MethodName := ⟨RX8, "pairing", "(II)I"⟩
abbrev cX8_needed : ByteArray := prog_1_method_10_code
def yX8_needed : MethodName := ⟨RX8, "needed", "()I"⟩
abbrev cX8_kernel : ByteArray := prog_1_method_11_code
def yX8_kernel : MethodName := ⟨RX8, "kernel", "(I)I"⟩
abbrev cX8_feed : ByteArray := prog_1_method_12_code
def yX8_feed : MethodName := ⟨RX8, "feed", "(JI)I"⟩
abbrev cX8_network : ByteArray := prog_1_method_13_code
def yX8_network : MethodName := ⟨RX8, "network", "()I"⟩
abbrev cX8_begin : ByteArray := prog_1_method_14_code
def yX8_begin : MethodName := ⟨RX8, "begin", "(II)I"⟩
abbrev cX8_go : ByteArray := prog_1_method_15_code
def yX8_go : MethodName := ⟨RX8, "go", "(I)I"⟩
abbrev cX8_back : ByteArray := prog_1_method_16_code
def yX8_back : MethodName := ⟨RX8, "back", "()I"⟩
abbrev cX8_game : ByteArray := prog_1_method_17_code
def yX8_game : MethodName := ⟨RX8, "game", "(I)I"⟩
abbrev cX8_moved : ByteArray := prog_1_method_18_code
def yX8_moved : MethodName := ⟨RX8, "moved", "(I)I"⟩
abbrev cX8_moves : ByteArray := prog_1_method_19_code
def yX8_moves : MethodName := ⟨RX8, "moves", "(I)I"⟩
abbrev cX8_worth : ByteArray := prog_1_method_20_code
def yX8_worth : MethodName := ⟨RX8, "worth", "(I)I"⟩
abbrev cX8_reach : ByteArray := prog_1_method_21_code
def yX8_reach : MethodName := ⟨RX8, "reach", "()I"⟩
abbrev cX8_starts : ByteArray := prog_1_method_22_code
def yX8_starts : MethodName := ⟨RX8, "starts", "(I)I"⟩
abbrev cX8_tells : ByteArray := prog_1_method_23_code
def yX8_tells : MethodName := ⟨RX8, "tells", "(I)I"⟩
abbrev cX8_play : ByteArray := prog_1_method_24_code
def yX8_play : MethodName := ⟨RX8, "play", "(III)I"⟩
abbrev cX8_fight : ByteArray := prog_1_method_25_code
def yX8_fight : MethodName := ⟨RX8, "fight", "(III)I"⟩
abbrev cX8_tree : ByteArray := prog_1_method_26_code
def yX8_tree : MethodName := ⟨RX8, "tree", "(I)I"⟩
abbrev cX8_node : ByteArray := prog_1_method_27_code
def yX8_node : MethodName := ⟨RX8, "node", "(I)I"⟩
abbrev cX8_sheet : ByteArray := prog_1_method_28_code
def yX8_sheet : MethodName := ⟨RX8, "sheet", "(III)I"⟩
abbrev cX8_put : ByteArray := prog_1_method_29_code
def yX8_put : MethodName := ⟨RX8, "put", "(III)I"⟩
abbrev cX8_number : ByteArray := prog_1_method_30_code
def yX8_number : MethodName := ⟨RX8, "number", "(II)I"⟩
abbrev cX8_copy : ByteArray := prog_1_method_31_code
def yX8_copy : MethodName := ⟨RX8, "copy", "(IIIII)I"⟩
abbrev cX8_degrees : ByteArray := prog_1_method_32_code
def yX8_degrees : MethodName := ⟨RX8, "degrees", "(II)I"⟩
abbrev cX8_walks : ByteArray := prog_1_method_33_code
def yX8_walks : MethodName := ⟨RX8, "walks", "(II)I"⟩
abbrev cX8_seed : ByteArray := prog_1_method_34_code
def yX8_seed : MethodName := ⟨RX8, "seed", "(I)I"⟩
abbrev cX8_image : ByteArray := prog_1_method_35_code
def yX8_image : MethodName := ⟨RX8, "image", "()I"⟩
abbrev cX8_restore : ByteArray := prog_1_method_36_code
def yX8_restore : MethodName := ⟨RX8, "restore", "()I"⟩
abbrev cX8_count : ByteArray := prog_1_method_37_code
def yX8_count : MethodName := ⟨RX8, "count", "(I)I"⟩
abbrev cX8_told : ByteArray := prog_1_method_38_code
def yX8_told : MethodName := ⟨RX8, "told", "(I)I"⟩
abbrev cX8_fail : ByteArray := prog_1_method_39_code
def yX8_fail : MethodName := ⟨RX8, "fail", "(I)I"⟩
abbrev cX8_isOver : ByteArray := prog_1_method_40_code
def yX8_isOver : MethodName := ⟨RX8, "isOver", "()Z"⟩
abbrev cX8_errorOfNumber : ByteArray := prog_1_method_41_code
def yX8_errorOfNumber : MethodName := ⟨RX8, "errorOfNumber", "(II)I"⟩
abbrev cX8_sheetsThere : ByteArray := prog_1_method_42_code
def yX8_sheetsThere : MethodName := ⟨RX8, "sheetsThere", "()I"⟩
abbrev cX8_isWay : ByteArray := prog_1_method_43_code
def yX8_isWay : MethodName := ⟨RX8, "isWay", "(I)Z"⟩
abbrev cX8_isRule : ByteArray := prog_1_method_44_code
def yX8_isRule : MethodName := ⟨RX8, "isRule", "(I)Z"⟩
abbrev cX8_isSheet : ByteArray := prog_1_method_45_code
def yX8_isSheet : MethodName := ⟨RX8, "isSheet", "(I)Z"⟩
abbrev cX8_isCode : ByteArray := prog_1_method_46_code
def yX8_isCode : MethodName := ⟨RX8, "isCode", "(I)Z"⟩
def RX9 : String := "MarkerWalksModel"
def TX9 : u_T := fun k => match k with
  | 0 => ("MarkerWalksModel", "errors", "[I", true)
  | 1 => ("MarkerWalksModel", "points", "I", false)
  | 2 => ("MarkerWalksModel", "lines", "I", false)
  | 3 => ("MarkerWalksModel", "from", "[I", true)
  | 4 => ("MarkerWalksModel", "to", "[I", true)
  | 5 => ("MarkerWalksModel", "ways", "[I", true)
  | 6 => ("MarkerWalksModel", "side", "[I", true)
  | 7 => ("MarkerWalksModel", "most", "I", false)
  | 8 => ("MarkerWalksModel", "necessary", "I", false)
  | 9 => ("MarkerWalksModel", "tape", "[I", true)
  | 10 => ("MarkerWalksModel", "taped", "I", false)
  | 11 => ("MarkerWalksModel", "hasGame", "Z", false)
  | 12 => ("MarkerWalksModel", "rule", "I", false)
  | 13 => ("MarkerWalksModel", "first", "I", false)
  | 14 => ("MarkerWalksModel", "marker", "I", false)
  | 15 => ("MarkerWalksModel", "met", "I", false)
  | 16 => ("MarkerWalksModel", "gone", "I", false)
  | 17 => ("MarkerWalksModel", "z", "I", false)
  | 18 => ("MarkerWalksModel", "made", "[I", true)
  | 19 => ("MarkerWalksModel", "many", "I", false)
  | 20 => ("MarkerWalksModel", "worths", "[I", true)
  | 21 => ("MarkerWalksModel", "nims", "[I", true)
  | 22 => ("MarkerWalksModel", "tabled", "I", false)
  | 23 => ("MarkerWalksModel", "been", "[Z", true)
  | 24 => ("MarkerWalksModel", "nodes", "I", false)
  | 25 => ("MarkerWalksModel", "leaves", "I", false)
  | 26 => ("MarkerWalksModel", "depth", "I", false)
  | 27 => ("MarkerWalksModel", "lineTo", "[I", true)
  | 28 => ("MarkerWalksModel", "widths", "[I", true)
  | 29 => ("MarkerWalksModel", "sizes", "[I", true)
  | 30 => ("MarkerWalksModel", "cells", "[I", true)
  | 31 => ("MarkerWalksModel", "kept", "[I", true)
  | _ => ("MarkerWalksModel", "hasImage", "Z", false)
def tyX9 : Nat → FieldType := fun k => match k with
  | 0 => .array .int
  | 1 => .int
  | 2 => .int
  | 3 => .array .int
  | 4 => .array .int
  | 5 => .array .int
  | 6 => .array .int
  | 7 => .int
  | 8 => .int
  | 9 => .array .int
  | 10 => .int
  | 11 => .boolean
  | 12 => .int
  | 13 => .int
  | 14 => .int
  | 15 => .int
  | 16 => .int
  | 17 => .int
  | 18 => .array .int
  | 19 => .int
  | 20 => .array .int
  | 21 => .array .int
  | 22 => .int
  | 23 => .array .boolean
  | 24 => .int
  | 25 => .int
  | 26 => .int
  | 27 => .array .int
  | 28 => .array .int
  | 29 => .array .int
  | 30 => .array .int
  | 31 => .array .int
  | _ => .boolean
abbrev wsX90 : List Cond := u_ws RX9 TX9 33
theorem nmX9 : ∀ a, a < 33 → ∀ b, b < 33 → a ≠ b → (TX9 a).2.1 ≠ (TX9 b).2.1 := by decide +kernel
theorem tyX9_ok : ∀ k, k < 33 → parseFieldDescriptor (TX9 k).2.2.1 = some (tyX9 k) := by decide +kernel
abbrev cX9_init : ByteArray := prog_11_method_1_code
def yX9_init : MethodName := ⟨RX9, "<init>", "()V"⟩
abbrev cX9_no : ByteArray := prog_11_method_2_code
def yX9_no : MethodName := ⟨RX9, "no", "(I)I"⟩
abbrev cX9_in : ByteArray := prog_11_method_3_code
def yX9_in : MethodName := ⟨RX9, "in", "(III)Z"⟩
abbrev cX9_has : ByteArray := prog_11_method_4_code
def yX9_has : MethodName := ⟨RX9, "has", "(II)Z"⟩
abbrev cX9_ones : ByteArray := prog_11_method_5_code
def yX9_ones : MethodName := ⟨RX9, "ones", "(I)I"⟩
abbrev cX9_isPoint : ByteArray := prog_11_method_6_code
def yX9_isPoint : MethodName := ⟨RX9, "isPoint", "(I)Z"⟩
abbrev cX9_isLine : ByteArray := prog_11_method_7_code
def yX9_isLine : MethodName := ⟨RX9, "isLine", "(I)Z"⟩
abbrev cX9_all : ByteArray := prog_11_method_8_code
def yX9_all : MethodName := ⟨RX9, "all", "()I"⟩
abbrev cX9_isNew : ByteArray := prog_11_method_9_code
def yX9_isNew : MethodName := ⟨RX9, "isNew", "()V"⟩
abbrev cX9_points : ByteArray := prog_11_method_10_code
def yX9_points : MethodName := ⟨RX9, "points", "(I)I"⟩
abbrev cX9_comes : ByteArray := prog_11_method_11_code
def yX9_comes : MethodName := ⟨RX9, "comes", "(III)V"⟩
abbrev cX9_line : ByteArray := prog_11_method_12_code
def yX9_line : MethodName := ⟨RX9, "line", "(III)I"⟩
abbrev cX9_way : ByteArray := prog_11_method_13_code
def yX9_way : MethodName := ⟨RX9, "way", "(II)I"⟩
abbrev cX9_cut : ByteArray := prog_11_method_14_code
def yX9_cut : MethodName := ⟨RX9, "cut", "(I)I"⟩
abbrev cX9_ends : ByteArray := prog_11_method_15_code
def yX9_ends : MethodName := ⟨RX9, "ends", "(II)I"⟩
abbrev cX9_isAt : ByteArray := prog_11_method_16_code
def yX9_isAt : MethodName := ⟨RX9, "isAt", "(II)Z"⟩
abbrev cX9_otherOf : ByteArray := prog_11_method_17_code
def yX9_otherOf : MethodName := ⟨RX9, "otherOf", "(II)I"⟩
abbrev cX9_leads : ByteArray := prog_11_method_18_code
def yX9_leads : MethodName := ⟨RX9, "leads", "(II)Z"⟩
abbrev cX9_degree : ByteArray := prog_11_method_19_code
def yX9_degree : MethodName := ⟨RX9, "degree", "(II)I"⟩
abbrev cX9_at : ByteArray := prog_11_method_20_code
def yX9_at : MethodName := ⟨RX9, "at", "(II)I"⟩
abbrev cX9_sidesFrom : ByteArray := prog_11_method_21_code
def yX9_sidesFrom : MethodName := ⟨RX9, "sidesFrom", "(II)Z"⟩
abbrev cX9_sides : ByteArray := prog_11_method_22_code
def yX9_sides : MethodName := ⟨RX9, "sides", "()I"⟩
abbrev cX9_metBy : ByteArray := prog_11_method_23_code
def yX9_metBy : MethodName := ⟨RX9, "metBy", "(II)I"⟩
abbrev cX9_pairingOf : ByteArray := prog_11_method_24_code
def yX9_pairingOf : MethodName := ⟨RX9, "pairingOf", "(I)I"⟩
abbrev cX9_pairing : ByteArray := prog_11_method_25_code
def yX9_pairing : MethodName := ⟨RX9, "pairing", "(II)I"⟩
abbrev cX9_needed : ByteArray := prog_11_method_26_code
def yX9_needed : MethodName := ⟨RX9, "needed", "()I"⟩
abbrev cX9_isKernel : ByteArray := prog_11_method_27_code
def yX9_isKernel : MethodName := ⟨RX9, "isKernel", "(I)Z"⟩
abbrev cX9_kernel : ByteArray := prog_11_method_28_code
def yX9_kernel : MethodName := ⟨RX9, "kernel", "(I)I"⟩
abbrev cX9_feed : ByteArray := prog_11_method_29_code
def yX9_feed : MethodName := ⟨RX9, "feed", "(JI)I"⟩
abbrev cX9_here : ByteArray := prog_11_method_30_code
def yX9_here : MethodName := ⟨RX9, "here", "(I)I"⟩
abbrev cX9_faultOf : ByteArray := prog_11_method_31_code
def yX9_faultOf : MethodName := ⟨RX9, "faultOf", "()I"⟩
abbrev cX9_network : ByteArray := prog_11_method_32_code
def yX9_network : MethodName := ⟨RX9, "network", "()I"⟩
abbrev cX9_isByLines : ByteArray := prog_11_method_33_code
def yX9_isByLines : MethodName := ⟨RX9, "isByLines", "()Z"⟩
abbrev cX9_isByWays : ByteArray := prog_11_method_34_code
def yX9_isByWays : MethodName := ⟨RX9, "isByWays", "()Z"⟩
abbrev cX9_isMove : ByteArray := prog_11_method_35_code
def yX9_isMove : MethodName := ⟨RX9, "isMove", "(III)Z"⟩
abbrev cX9_setBehind : ByteArray := prog_11_method_36_code
def yX9_setBehind : MethodName := ⟨RX9, "setBehind", "(III)I"⟩
abbrev cX9_movesAt : ByteArray := prog_11_method_37_code
def yX9_movesAt : MethodName := ⟨RX9, "movesAt", "(II)I"⟩
abbrev cX9_tables : ByteArray := prog_11_method_38_code
def yX9_tables : MethodName := ⟨RX9, "tables", "()V"⟩
abbrev cX9_worthAt : ByteArray := prog_11_method_39_code
def yX9_worthAt : MethodName := ⟨RX9, "worthAt", "(II)I"⟩
abbrev cX9_winsAt : ByteArray := prog_11_method_40_code
def yX9_winsAt : MethodName := ⟨RX9, "winsAt", "(II)Z"⟩
abbrev cX9_longAt : ByteArray := prog_11_method_41_code
def yX9_longAt : MethodName := ⟨RX9, "longAt", "(II)I"⟩
abbrev cX9_nimAt : ByteArray := prog_11_method_42_code
def yX9_nimAt : MethodName := ⟨RX9, "nimAt", "(II)I"⟩
abbrev cX9_setNow : ByteArray := prog_11_method_43_code
def yX9_setNow : MethodName := ⟨RX9, "setNow", "()I"⟩
abbrev cX9_movesNow : ByteArray := prog_11_method_44_code
def yX9_movesNow : MethodName := ⟨RX9, "movesNow", "()I"⟩
abbrev cX9_isOver : ByteArray := prog_11_method_45_code
def yX9_isOver : MethodName := ⟨RX9, "isOver", "()Z"⟩
abbrev cX9_winsBehind : ByteArray := prog_11_method_46_code
def yX9_winsBehind : MethodName := ⟨RX9, "winsBehind", "(I)Z"⟩
abbrev cX9_beginsAt : ByteArray := prog_11_method_47_code
def yX9_beginsAt : MethodName := ⟨RX9, "beginsAt", "(II)V"⟩
abbrev cX9_begin : ByteArray := prog_11_method_48_code
def yX9_begin : MethodName := ⟨RX9, "begin", "(II)I"⟩
abbrev cX9_goes : ByteArray := prog_11_method_49_code
def yX9_goes : MethodName := ⟨RX9, "goes", "(I)V"⟩
abbrev cX9_go : ByteArray := prog_11_method_50_code
def yX9_go : MethodName := ⟨RX9, "go", "(I)I"⟩
abbrev cX9_goesBack : ByteArray := prog_11_method_51_code
def yX9_goesBack : MethodName := ⟨RX9, "goesBack", "()V"⟩
abbrev cX9_back : ByteArray := prog_11_method_52_code
def yX9_back : MethodName := ⟨RX9, "back", "()I"⟩
abbrev cX9_mover : ByteArray := prog_11_method_53_code
def yX9_mover : MethodName := ⟨RX9, "mover", "()I"⟩
abbrev cX9_winner : ByteArray := prog_11_method_54_code
def yX9_winner : MethodName := ⟨RX9, "winner", "()I"⟩
abbrev cX9_game : ByteArray := prog_11_method_55_code
def yX9_game : MethodName := ⟨RX9, "game", "(I)I"⟩
abbrev cX9_moved : ByteArray := prog_11_method_56_code
def yX9_moved : MethodName := ⟨RX9, "moved", "(I)I"⟩
abbrev cX9_winning : ByteArray := prog_11_method_57_code
def yX9_winning : MethodName := ⟨RX9, "winning", "()I"⟩
abbrev cX9_moves : ByteArray := prog_11_method_58_code
def yX9_moves : MethodName := ⟨RX9, "moves", "(I)I"⟩
abbrev cX9_worth : ByteArray := prog_11_method_59_code
def yX9_worth : MethodName := ⟨RX9, "worth", "(I)I"⟩
abbrev cX9_reaches : ByteArray := prog_11_method_60_code
def yX9_reaches : MethodName := ⟨RX9, "reaches", "(II)I"⟩
abbrev cX9_reach : ByteArray := prog_11_method_61_code
def yX9_reach : MethodName := ⟨RX9, "reach", "()I"⟩
abbrev cX9_starts : ByteArray := prog_11_method_62_code
def yX9_starts : MethodName := ⟨RX9, "starts", "(I)I"⟩
abbrev cX9_isCode : ByteArray := prog_11_method_63_code
def yX9_isCode : MethodName := ⟨RX9, "isCode", "(I)Z"⟩
abbrev cX9_least : ByteArray := prog_11_method_64_code
def yX9_least : MethodName := ⟨RX9, "least", "(I)I"⟩
abbrev cX9_greatest : ByteArray := prog_11_method_65_code
def yX9_greatest : MethodName := ⟨RX9, "greatest", "(I)I"⟩
abbrev cX9_drawn : ByteArray := prog_11_method_66_code
def yX9_drawn : MethodName := ⟨RX9, "drawn", "(I)I"⟩
abbrev cX9_bestBy : ByteArray := prog_11_method_67_code
def yX9_bestBy : MethodName := ⟨RX9, "bestBy", "(IZ)I"⟩
abbrev cX9_paired : ByteArray := prog_11_method_68_code
def yX9_paired : MethodName := ⟨RX9, "paired", "(I)I"⟩
abbrev cX9_simple : ByteArray := prog_11_method_69_code
def yX9_simple : MethodName := ⟨RX9, "simple", "(I)I"⟩
abbrev cX9_planned : ByteArray := prog_11_method_70_code
def yX9_planned : MethodName := ⟨RX9, "planned", "(I)I"⟩
abbrev cX9_tells : ByteArray := prog_11_method_71_code
def yX9_tells : MethodName := ⟨RX9, "tells", "(I)I"⟩
abbrev cX9_plays : ByteArray := prog_11_method_72_code
def yX9_plays : MethodName := ⟨RX9, "plays", "(III)I"⟩
abbrev cX9_play : ByteArray := prog_11_method_73_code
def yX9_play : MethodName := ⟨RX9, "play", "(III)I"⟩
abbrev cX9_fight : ByteArray := prog_11_method_74_code
def yX9_fight : MethodName := ⟨RX9, "fight", "(III)I"⟩
abbrev cX9_grows : ByteArray := prog_11_method_75_code
def yX9_grows : MethodName := ⟨RX9, "grows", "(IIZII)V"⟩
abbrev cX9_isGrown : ByteArray := prog_11_method_76_code
def yX9_isGrown : MethodName := ⟨RX9, "isGrown", "()Z"⟩
abbrev cX9_tree : ByteArray := prog_11_method_77_code
def yX9_tree : MethodName := ⟨RX9, "tree", "(I)I"⟩
abbrev cX9_node : ByteArray := prog_11_method_78_code
def yX9_node : MethodName := ⟨RX9, "node", "(I)I"⟩
abbrev cX9_isSheet : ByteArray := prog_11_method_79_code
def yX9_isSheet : MethodName := ⟨RX9, "isSheet", "(I)Z"⟩
abbrev cX9_sheet : ByteArray := prog_11_method_80_code
def yX9_sheet : MethodName := ⟨RX9, "sheet", "(III)I"⟩
abbrev cX9_wrongCell : ByteArray := prog_11_method_81_code
def yX9_wrongCell : MethodName := ⟨RX9, "wrongCell", "(II)I"⟩
abbrev cX9_lays : ByteArray := prog_11_method_82_code
def yX9_lays : MethodName := ⟨RX9, "lays", "(III)V"⟩
abbrev cX9_put : ByteArray := prog_11_method_83_code
def yX9_put : MethodName := ⟨RX9, "put", "(III)I"⟩
abbrev cX9_number : ByteArray := prog_11_method_84_code
def yX9_number : MethodName := ⟨RX9, "number", "(II)I"⟩
abbrev cX9_copy : ByteArray := prog_11_method_85_code
def yX9_copy : MethodName := ⟨RX9, "copy", "(IIIII)I"⟩
abbrev cX9_degrees : ByteArray := prog_11_method_86_code
def yX9_degrees : MethodName := ⟨RX9, "degrees", "(II)I"⟩
abbrev cX9_walks : ByteArray := prog_11_method_87_code
def yX9_walks : MethodName := ⟨RX9, "walks", "(II)I"⟩
abbrev cX9_seed : ByteArray := prog_11_method_88_code
def yX9_seed : MethodName := ⟨RX9, "seed", "(I)I"⟩
abbrev cX9_image : ByteArray := prog_11_method_89_code
def yX9_image : MethodName := ⟨RX9, "image", "()I"⟩
abbrev cX9_restore : ByteArray := prog_11_method_90_code
def yX9_restore : MethodName := ⟨RX9, "restore", "()I"⟩
abbrev cX9_sheetsThere : ByteArray := prog_11_method_91_code
def yX9_sheetsThere : MethodName := ⟨RX9, "sheetsThere", "()I"⟩
abbrev cX9_count : ByteArray := prog_11_method_92_code
def yX9_count : MethodName := ⟨RX9, "count", "(I)I"⟩
abbrev cX9_told : ByteArray := prog_11_method_93_code
def yX9_told : MethodName := ⟨RX9, "told", "(I)I"⟩
def RJ6 : String := "java/lang/Integer"
def TJ6 : u_T := fun k => match k with
  | _ => ("", "", "", false)
def tyJ6 : Nat → FieldType := fun k => match k with
  | _ => .int
abbrev wsJ60 : List Cond := u_ws RJ6 TJ6 0
theorem nmJ6 : ∀ a, a < 0 → ∀ b, b < 0 → a ≠ b → (TJ6 a).2.1 ≠ (TJ6 b).2.1 := by decide +kernel
theorem tyJ6_ok : ∀ k, k < 0 → parseFieldDescriptor (TJ6 k).2.2.1 = some (tyJ6 k) := by decide +kernel
abbrev cJ6_lowestOneBit_0f7a4 : ByteArray := prog_12_method_46_code
def yJ6_lowestOneBit_0f7a4 : MethodName := ⟨RJ6, "lowestOneBit", "(I)I"⟩
abbrev cJ6_numberOfLeadingZeros_0f7a4 : ByteArray := prog_12_method_47_code
def yJ6_numberOfLeadingZeros_0f7a4 : MethodName := ⟨RJ6, "numberOfLeadingZeros", "(I)I"⟩
abbrev cJ6_numberOfTrailingZeros_0f7a4 : ByteArray := prog_12_method_48_code
def yJ6_numberOfTrailingZeros_0f7a4 : MethodName := ⟨RJ6, "numberOfTrailingZeros", "(I)I"⟩
abbrev cJ6_bitCount_0f7a4 : ByteArray := prog_12_method_49_code
def yJ6_bitCount_0f7a4 : MethodName := ⟨RJ6, "bitCount", "(I)I"⟩
def RJ9 : String := "java/lang/Math"
def TJ9 : u_T := fun k => match k with
  | _ => ("", "", "", false)
def tyJ9 : Nat → FieldType := fun k => match k with
  | _ => .int
abbrev wsJ90 : List Cond := u_ws RJ9 TJ9 0
theorem nmJ9 : ∀ a, a < 0 → ∀ b, b < 0 → a ≠ b → (TJ9 a).2.1 ≠ (TJ9 b).2.1 := by decide +kernel
theorem tyJ9_ok : ∀ k, k < 0 → parseFieldDescriptor (TJ9 k).2.2.1 = some (tyJ9 k) := by decide +kernel
abbrev cJ9_max_7cf53 : ByteArray := prog_13_method_65_code
def yJ9_max_7cf53 : MethodName := ⟨RJ9, "max", "(II)I"⟩
abbrev cJ9_min_7cf53 : ByteArray := prog_13_method_69_code
def yJ9_min_7cf53 : MethodName := ⟨RJ9, "min", "(II)I"⟩
def RJ10 : String := "java/lang/System"
def TJ10 : u_T := fun k => match k with
  | _ => ("", "", "", false)
def tyJ10 : Nat → FieldType := fun k => match k with
  | _ => .int
abbrev wsJ100 : List Cond := u_ws RJ10 TJ10 0
theorem nmJ10 : ∀ a, a < 0 → ∀ b, b < 0 → a ≠ b → (TJ10 a).2.1 ≠ (TJ10 b).2.1 := by decide +kernel
theorem tyJ10_ok : ∀ k, k < 0 → parseFieldDescriptor (TJ10 k).2.2.1 = some (tyJ10 k) := by decide +kernel
def RJ7 : String := "java/util/Arrays"
def TJ7 : u_T := fun k => match k with
  | _ => ("", "", "", false)
def tyJ7 : Nat → FieldType := fun k => match k with
  | _ => .int
abbrev wsJ70 : List Cond := u_ws RJ7 TJ7 0
theorem nmJ7 : ∀ a, a < 0 → ∀ b, b < 0 → a ≠ b → (TJ7 a).2.1 ≠ (TJ7 b).2.1 := by decide +kernel
theorem tyJ7_ok : ∀ k, k < 0 → parseFieldDescriptor (TJ7 k).2.2.1 = some (tyJ7 k) := by decide +kernel
abbrev cJ7_fill_53178 : ByteArray := prog_15_method_103_code
def yJ7_fill_53178 : MethodName := ⟨RJ7, "fill", "([II)V"⟩
def RL : String := "MarkerWalksLaw"
abbrev cL_law : ByteArray := code
def yL_law : MethodName := ⟨RL, "law", "([I)Z"⟩
abbrev vwCl : List vw_C := [(RX0, TX0, 5), (RX1, TX1, 4), (RX2, TX2, 10), (RX3, TX3, 3), (RX4, TX4, 3), (RX6, TX6, 2), (RX7, TX7, 7), (RX8, TX8, 11), (RX9, TX9, 33)]
