section
-- ===== PART A: goes FIRST, ahead of the names: the tables' words, and 'selects' of the private methods out of them =====
/-- a private method of a class that the tables say can be made, by its rows of tables_1 -/
def lw_okq (q : MethodName × Nat) : Prop := (q.1.cls ≠ "java/lang/invoke/MethodHandle" ∧ q.1.cls ≠ "java/lang/invoke/VarHandle") ∧ Cond.instantiable q.1.cls q.2 ∈ tables_1 ∧ Cond.privateMethod q.1 ∈ tables_1 ∧ Cond.instanceMethod q.1 ∈ tables_1
theorem lw_p0 : lw_okq (⟨"MarkerWalks", "fail", "(I)I"⟩, 11) := ⟨⟨by decide +kernel, by decide +kernel⟩, List.mem_of_getElem? (i := 16) (by decide +kernel), List.mem_of_getElem? (i := 240) (by decide +kernel), List.mem_of_getElem? (i := 241) (by decide +kernel)⟩
theorem lw_p1 : lw_okq (⟨"MarkerWalks$Network", "gather", "()V"⟩, 10) := ⟨⟨by decide +kernel, by decide +kernel⟩, List.mem_of_getElem? (i := 24) (by decide +kernel), List.mem_of_getElem? (i := 249) (by decide +kernel), List.mem_of_getElem? (i := 250) (by decide +kernel)⟩
theorem lw_p2 : lw_okq (⟨"MarkerWalks$Network", "lead", "(III)V"⟩, 10) := ⟨⟨by decide +kernel, by decide +kernel⟩, List.mem_of_getElem? (i := 24) (by decide +kernel), List.mem_of_getElem? (i := 256) (by decide +kernel), List.mem_of_getElem? (i := 257) (by decide +kernel)⟩
theorem lw_p3 : lw_okq (⟨"MarkerWalks$Network", "neighbours", "(I)I"⟩, 10) := ⟨⟨by decide +kernel, by decide +kernel⟩, List.mem_of_getElem? (i := 24) (by decide +kernel), List.mem_of_getElem? (i := 324) (by decide +kernel), List.mem_of_getElem? (i := 325) (by decide +kernel)⟩
theorem lw_p4 : lw_okq (⟨"MarkerWalks$Network", "pairsAmong", "(II)I"⟩, 10) := ⟨⟨by decide +kernel, by decide +kernel⟩, List.mem_of_getElem? (i := 24) (by decide +kernel), List.mem_of_getElem? (i := 340) (by decide +kernel), List.mem_of_getElem? (i := 341) (by decide +kernel)⟩
theorem lw_p5 : lw_okq (⟨"MarkerWalks$Network", "endsAsSet", "(I)I"⟩, 10) := ⟨⟨by decide +kernel, by decide +kernel⟩, List.mem_of_getElem? (i := 24) (by decide +kernel), List.mem_of_getElem? (i := 344) (by decide +kernel), List.mem_of_getElem? (i := 345) (by decide +kernel)⟩
theorem lw_p6 : lw_okq (⟨"MarkerWalks$Tape", "fits", "(I)Z"⟩, 2) := ⟨⟨by decide +kernel, by decide +kernel⟩, List.mem_of_getElem? (i := 168) (by decide +kernel), List.mem_of_getElem? (i := 389) (by decide +kernel), List.mem_of_getElem? (i := 390) (by decide +kernel)⟩
theorem lw_p7 : lw_okq (⟨"MarkerWalks$Judge", "weigh", "(II)I"⟩, 4) := ⟨⟨by decide +kernel, by decide +kernel⟩, List.mem_of_getElem? (i := 74) (by decide +kernel), List.mem_of_getElem? (i := 434) (by decide +kernel), List.mem_of_getElem? (i := 435) (by decide +kernel)⟩
theorem lw_p8 : lw_okq (⟨"MarkerWalks$Judge", "overLines", "()Z"⟩, 4) := ⟨⟨by decide +kernel, by decide +kernel⟩, List.mem_of_getElem? (i := 74) (by decide +kernel), List.mem_of_getElem? (i := 438) (by decide +kernel), List.mem_of_getElem? (i := 439) (by decide +kernel)⟩
theorem lw_p9 : lw_okq (⟨"MarkerWalks", "isOver", "()Z"⟩, 11) := ⟨⟨by decide +kernel, by decide +kernel⟩, List.mem_of_getElem? (i := 16) (by decide +kernel), List.mem_of_getElem? (i := 496) (by decide +kernel), List.mem_of_getElem? (i := 497) (by decide +kernel)⟩
theorem lw_p10 : lw_okq (⟨"MarkerWalks$Judge", "spread", "(I)I"⟩, 4) := ⟨⟨by decide +kernel, by decide +kernel⟩, List.mem_of_getElem? (i := 74) (by decide +kernel), List.mem_of_getElem? (i := 554) (by decide +kernel), List.mem_of_getElem? (i := 555) (by decide +kernel)⟩
theorem lw_p11 : lw_okq (⟨"MarkerWalks$Judge", "farEnds", "(II)I"⟩, 4) := ⟨⟨by decide +kernel, by decide +kernel⟩, List.mem_of_getElem? (i := 74) (by decide +kernel), List.mem_of_getElem? (i := 561) (by decide +kernel), List.mem_of_getElem? (i := 562) (by decide +kernel)⟩
theorem lw_p12 : lw_okq (⟨"MarkerWalks$Planner", "simple", "(II)I"⟩, 3) := ⟨⟨by decide +kernel, by decide +kernel⟩, List.mem_of_getElem? (i := 93) (by decide +kernel), List.mem_of_getElem? (i := 580) (by decide +kernel), List.mem_of_getElem? (i := 581) (by decide +kernel)⟩
theorem lw_p13 : lw_okq (⟨"MarkerWalks$Planner", "pairAtMarker", "(I)I"⟩, 3) := ⟨⟨by decide +kernel, by decide +kernel⟩, List.mem_of_getElem? (i := 93) (by decide +kernel), List.mem_of_getElem? (i := 596) (by decide +kernel), List.mem_of_getElem? (i := 597) (by decide +kernel)⟩
theorem lw_p14 : lw_okq (⟨"MarkerWalks$Planner", "drawn", "(I)I"⟩, 3) := ⟨⟨by decide +kernel, by decide +kernel⟩, List.mem_of_getElem? (i := 93) (by decide +kernel), List.mem_of_getElem? (i := 604) (by decide +kernel), List.mem_of_getElem? (i := 605) (by decide +kernel)⟩
theorem lw_p15 : lw_okq (⟨"MarkerWalks$Planner", "narrowest", "(II)I"⟩, 3) := ⟨⟨by decide +kernel, by decide +kernel⟩, List.mem_of_getElem? (i := 93) (by decide +kernel), List.mem_of_getElem? (i := 610) (by decide +kernel), List.mem_of_getElem? (i := 611) (by decide +kernel)⟩
def lw_privs_1 : List (MethodName × Nat) := [(⟨"MarkerWalks", "fail", "(I)I"⟩, 11), (⟨"MarkerWalks$Network", "gather", "()V"⟩, 10), (⟨"MarkerWalks$Network", "lead", "(III)V"⟩, 10), (⟨"MarkerWalks$Network", "neighbours", "(I)I"⟩, 10), (⟨"MarkerWalks$Network", "pairsAmong", "(II)I"⟩, 10), (⟨"MarkerWalks$Network", "endsAsSet", "(I)I"⟩, 10), (⟨"MarkerWalks$Tape", "fits", "(I)Z"⟩, 2), (⟨"MarkerWalks$Judge", "weigh", "(II)I"⟩, 4), (⟨"MarkerWalks$Judge", "overLines", "()Z"⟩, 4), (⟨"MarkerWalks", "isOver", "()Z"⟩, 11), (⟨"MarkerWalks$Judge", "spread", "(I)I"⟩, 4), (⟨"MarkerWalks$Judge", "farEnds", "(II)I"⟩, 4), (⟨"MarkerWalks$Planner", "simple", "(II)I"⟩, 3), (⟨"MarkerWalks$Planner", "pairAtMarker", "(I)I"⟩, 3), (⟨"MarkerWalks$Planner", "drawn", "(I)I"⟩, 3), (⟨"MarkerWalks$Planner", "narrowest", "(II)I"⟩, 3)]
theorem lw_r1 : ∀ q ∈ lw_privs_1, lw_okq q := List.forall_mem_cons.mpr ⟨lw_p0, List.forall_mem_cons.mpr ⟨lw_p1, List.forall_mem_cons.mpr ⟨lw_p2, List.forall_mem_cons.mpr ⟨lw_p3, List.forall_mem_cons.mpr ⟨lw_p4, List.forall_mem_cons.mpr ⟨lw_p5, List.forall_mem_cons.mpr ⟨lw_p6, List.forall_mem_cons.mpr ⟨lw_p7, List.forall_mem_cons.mpr ⟨lw_p8, List.forall_mem_cons.mpr ⟨lw_p9, List.forall_mem_cons.mpr ⟨lw_p10, List.forall_mem_cons.mpr ⟨lw_p11, List.forall_mem_cons.mpr ⟨lw_p12, List.forall_mem_cons.mpr ⟨lw_p13, List.forall_mem_cons.mpr ⟨lw_p14, List.forall_mem_cons.mpr ⟨lw_p15, fun _ h => absurd h List.not_mem_nil⟩⟩⟩⟩⟩⟩⟩⟩⟩⟩⟩⟩⟩⟩⟩⟩
theorem lw_p16 : lw_okq (⟨"MarkerWalks$Planner", "slowest", "(II)I"⟩, 3) := ⟨⟨by decide +kernel, by decide +kernel⟩, List.mem_of_getElem? (i := 93) (by decide +kernel), List.mem_of_getElem? (i := 615) (by decide +kernel), List.mem_of_getElem? (i := 616) (by decide +kernel)⟩
theorem lw_p17 : lw_okq (⟨"MarkerWalks$Tree", "grow", "(III)V"⟩, 7) := ⟨⟨by decide +kernel, by decide +kernel⟩, List.mem_of_getElem? (i := 110) (by decide +kernel), List.mem_of_getElem? (i := 637) (by decide +kernel), List.mem_of_getElem? (i := 638) (by decide +kernel)⟩
theorem lw_p18 : lw_okq (⟨"MarkerWalks", "errorOfNumber", "(II)I"⟩, 11) := ⟨⟨by decide +kernel, by decide +kernel⟩, List.mem_of_getElem? (i := 16) (by decide +kernel), List.mem_of_getElem? (i := 669) (by decide +kernel), List.mem_of_getElem? (i := 670) (by decide +kernel)⟩
theorem lw_p19 : lw_okq (⟨"MarkerWalks", "sheetsThere", "()I"⟩, 11) := ⟨⟨by decide +kernel, by decide +kernel⟩, List.mem_of_getElem? (i := 16) (by decide +kernel), List.mem_of_getElem? (i := 723) (by decide +kernel), List.mem_of_getElem? (i := 724) (by decide +kernel)⟩
theorem lw_p20 : lw_okq (⟨"MarkerWalksModel", "no", "(I)I"⟩, 33) := ⟨⟨by decide +kernel, by decide +kernel⟩, List.mem_of_getElem? (i := 731) (by decide +kernel), List.mem_of_getElem? (i := 846) (by decide +kernel), List.mem_of_getElem? (i := 847) (by decide +kernel)⟩
theorem lw_p21 : lw_okq (⟨"MarkerWalksModel", "isNew", "()V"⟩, 33) := ⟨⟨by decide +kernel, by decide +kernel⟩, List.mem_of_getElem? (i := 731) (by decide +kernel), List.mem_of_getElem? (i := 851) (by decide +kernel), List.mem_of_getElem? (i := 852) (by decide +kernel)⟩
theorem lw_p22 : lw_okq (⟨"MarkerWalksModel", "isPoint", "(I)Z"⟩, 33) := ⟨⟨by decide +kernel, by decide +kernel⟩, List.mem_of_getElem? (i := 731) (by decide +kernel), List.mem_of_getElem? (i := 859) (by decide +kernel), List.mem_of_getElem? (i := 860) (by decide +kernel)⟩
theorem lw_p23 : lw_okq (⟨"MarkerWalksModel", "comes", "(III)V"⟩, 33) := ⟨⟨by decide +kernel, by decide +kernel⟩, List.mem_of_getElem? (i := 731) (by decide +kernel), List.mem_of_getElem? (i := 863) (by decide +kernel), List.mem_of_getElem? (i := 864) (by decide +kernel)⟩
theorem lw_p24 : lw_okq (⟨"MarkerWalksModel", "isLine", "(I)Z"⟩, 33) := ⟨⟨by decide +kernel, by decide +kernel⟩, List.mem_of_getElem? (i := 731) (by decide +kernel), List.mem_of_getElem? (i := 871) (by decide +kernel), List.mem_of_getElem? (i := 872) (by decide +kernel)⟩
theorem lw_p25 : lw_okq (⟨"MarkerWalksModel", "degree", "(II)I"⟩, 33) := ⟨⟨by decide +kernel, by decide +kernel⟩, List.mem_of_getElem? (i := 731) (by decide +kernel), List.mem_of_getElem? (i := 887) (by decide +kernel), List.mem_of_getElem? (i := 888) (by decide +kernel)⟩
theorem lw_p26 : lw_okq (⟨"MarkerWalksModel", "isAt", "(II)Z"⟩, 33) := ⟨⟨by decide +kernel, by decide +kernel⟩, List.mem_of_getElem? (i := 731) (by decide +kernel), List.mem_of_getElem? (i := 891) (by decide +kernel), List.mem_of_getElem? (i := 892) (by decide +kernel)⟩
theorem lw_p27 : lw_okq (⟨"MarkerWalksModel", "otherOf", "(II)I"⟩, 33) := ⟨⟨by decide +kernel, by decide +kernel⟩, List.mem_of_getElem? (i := 731) (by decide +kernel), List.mem_of_getElem? (i := 895) (by decide +kernel), List.mem_of_getElem? (i := 896) (by decide +kernel)⟩
theorem lw_p28 : lw_okq (⟨"MarkerWalksModel", "leads", "(II)Z"⟩, 33) := ⟨⟨by decide +kernel, by decide +kernel⟩, List.mem_of_getElem? (i := 731) (by decide +kernel), List.mem_of_getElem? (i := 899) (by decide +kernel), List.mem_of_getElem? (i := 900) (by decide +kernel)⟩
theorem lw_p29 : lw_okq (⟨"MarkerWalksModel", "sidesFrom", "(II)Z"⟩, 33) := ⟨⟨by decide +kernel, by decide +kernel⟩, List.mem_of_getElem? (i := 731) (by decide +kernel), List.mem_of_getElem? (i := 907) (by decide +kernel), List.mem_of_getElem? (i := 908) (by decide +kernel)⟩
theorem lw_p30 : lw_okq (⟨"MarkerWalksModel", "all", "()I"⟩, 33) := ⟨⟨by decide +kernel, by decide +kernel⟩, List.mem_of_getElem? (i := 731) (by decide +kernel), List.mem_of_getElem? (i := 915) (by decide +kernel), List.mem_of_getElem? (i := 916) (by decide +kernel)⟩
theorem lw_p31 : lw_okq (⟨"MarkerWalksModel", "pairingOf", "(I)I"⟩, 33) := ⟨⟨by decide +kernel, by decide +kernel⟩, List.mem_of_getElem? (i := 731) (by decide +kernel), List.mem_of_getElem? (i := 919) (by decide +kernel), List.mem_of_getElem? (i := 920) (by decide +kernel)⟩
def lw_privs_2 : List (MethodName × Nat) := [(⟨"MarkerWalks$Planner", "slowest", "(II)I"⟩, 3), (⟨"MarkerWalks$Tree", "grow", "(III)V"⟩, 7), (⟨"MarkerWalks", "errorOfNumber", "(II)I"⟩, 11), (⟨"MarkerWalks", "sheetsThere", "()I"⟩, 11), (⟨"MarkerWalksModel", "no", "(I)I"⟩, 33), (⟨"MarkerWalksModel", "isNew", "()V"⟩, 33), (⟨"MarkerWalksModel", "isPoint", "(I)Z"⟩, 33), (⟨"MarkerWalksModel", "comes", "(III)V"⟩, 33), (⟨"MarkerWalksModel", "isLine", "(I)Z"⟩, 33), (⟨"MarkerWalksModel", "degree", "(II)I"⟩, 33), (⟨"MarkerWalksModel", "isAt", "(II)Z"⟩, 33), (⟨"MarkerWalksModel", "otherOf", "(II)I"⟩, 33), (⟨"MarkerWalksModel", "leads", "(II)Z"⟩, 33), (⟨"MarkerWalksModel", "sidesFrom", "(II)Z"⟩, 33), (⟨"MarkerWalksModel", "all", "()I"⟩, 33), (⟨"MarkerWalksModel", "pairingOf", "(I)I"⟩, 33)]
theorem lw_r2 : ∀ q ∈ lw_privs_2, lw_okq q := List.forall_mem_cons.mpr ⟨lw_p16, List.forall_mem_cons.mpr ⟨lw_p17, List.forall_mem_cons.mpr ⟨lw_p18, List.forall_mem_cons.mpr ⟨lw_p19, List.forall_mem_cons.mpr ⟨lw_p20, List.forall_mem_cons.mpr ⟨lw_p21, List.forall_mem_cons.mpr ⟨lw_p22, List.forall_mem_cons.mpr ⟨lw_p23, List.forall_mem_cons.mpr ⟨lw_p24, List.forall_mem_cons.mpr ⟨lw_p25, List.forall_mem_cons.mpr ⟨lw_p26, List.forall_mem_cons.mpr ⟨lw_p27, List.forall_mem_cons.mpr ⟨lw_p28, List.forall_mem_cons.mpr ⟨lw_p29, List.forall_mem_cons.mpr ⟨lw_p30, List.forall_mem_cons.mpr ⟨lw_p31, fun _ h => absurd h List.not_mem_nil⟩⟩⟩⟩⟩⟩⟩⟩⟩⟩⟩⟩⟩⟩⟩⟩
theorem lw_p32 : lw_okq (⟨"MarkerWalksModel", "metBy", "(II)I"⟩, 33) := ⟨⟨by decide +kernel, by decide +kernel⟩, List.mem_of_getElem? (i := 731) (by decide +kernel), List.mem_of_getElem? (i := 926) (by decide +kernel), List.mem_of_getElem? (i := 927) (by decide +kernel)⟩
theorem lw_p33 : lw_okq (⟨"MarkerWalksModel", "isKernel", "(I)Z"⟩, 33) := ⟨⟨by decide +kernel, by decide +kernel⟩, List.mem_of_getElem? (i := 731) (by decide +kernel), List.mem_of_getElem? (i := 941) (by decide +kernel), List.mem_of_getElem? (i := 942) (by decide +kernel)⟩
theorem lw_p34 : lw_okq (⟨"MarkerWalksModel", "faultOf", "()I"⟩, 33) := ⟨⟨by decide +kernel, by decide +kernel⟩, List.mem_of_getElem? (i := 731) (by decide +kernel), List.mem_of_getElem? (i := 954) (by decide +kernel), List.mem_of_getElem? (i := 955) (by decide +kernel)⟩
theorem lw_p35 : lw_okq (⟨"MarkerWalksModel", "here", "(I)I"⟩, 33) := ⟨⟨by decide +kernel, by decide +kernel⟩, List.mem_of_getElem? (i := 731) (by decide +kernel), List.mem_of_getElem? (i := 958) (by decide +kernel), List.mem_of_getElem? (i := 959) (by decide +kernel)⟩
theorem lw_p36 : lw_okq (⟨"MarkerWalksModel", "beginsAt", "(II)V"⟩, 33) := ⟨⟨by decide +kernel, by decide +kernel⟩, List.mem_of_getElem? (i := 731) (by decide +kernel), List.mem_of_getElem? (i := 966) (by decide +kernel), List.mem_of_getElem? (i := 967) (by decide +kernel)⟩
theorem lw_p37 : lw_okq (⟨"MarkerWalksModel", "setNow", "()I"⟩, 33) := ⟨⟨by decide +kernel, by decide +kernel⟩, List.mem_of_getElem? (i := 731) (by decide +kernel), List.mem_of_getElem? (i := 970) (by decide +kernel), List.mem_of_getElem? (i := 971) (by decide +kernel)⟩
theorem lw_p38 : lw_okq (⟨"MarkerWalksModel", "isByLines", "()Z"⟩, 33) := ⟨⟨by decide +kernel, by decide +kernel⟩, List.mem_of_getElem? (i := 731) (by decide +kernel), List.mem_of_getElem? (i := 974) (by decide +kernel), List.mem_of_getElem? (i := 975) (by decide +kernel)⟩
theorem lw_p39 : lw_okq (⟨"MarkerWalksModel", "winsAt", "(II)Z"⟩, 33) := ⟨⟨by decide +kernel, by decide +kernel⟩, List.mem_of_getElem? (i := 731) (by decide +kernel), List.mem_of_getElem? (i := 978) (by decide +kernel), List.mem_of_getElem? (i := 979) (by decide +kernel)⟩
theorem lw_p40 : lw_okq (⟨"MarkerWalksModel", "tables", "()V"⟩, 33) := ⟨⟨by decide +kernel, by decide +kernel⟩, List.mem_of_getElem? (i := 731) (by decide +kernel), List.mem_of_getElem? (i := 982) (by decide +kernel), List.mem_of_getElem? (i := 983) (by decide +kernel)⟩
theorem lw_p41 : lw_okq (⟨"MarkerWalksModel", "worthAt", "(II)I"⟩, 33) := ⟨⟨by decide +kernel, by decide +kernel⟩, List.mem_of_getElem? (i := 731) (by decide +kernel), List.mem_of_getElem? (i := 986) (by decide +kernel), List.mem_of_getElem? (i := 987) (by decide +kernel)⟩
theorem lw_p42 : lw_okq (⟨"MarkerWalksModel", "isMove", "(III)Z"⟩, 33) := ⟨⟨by decide +kernel, by decide +kernel⟩, List.mem_of_getElem? (i := 731) (by decide +kernel), List.mem_of_getElem? (i := 990) (by decide +kernel), List.mem_of_getElem? (i := 991) (by decide +kernel)⟩
theorem lw_p43 : lw_okq (⟨"MarkerWalksModel", "isByWays", "()Z"⟩, 33) := ⟨⟨by decide +kernel, by decide +kernel⟩, List.mem_of_getElem? (i := 731) (by decide +kernel), List.mem_of_getElem? (i := 994) (by decide +kernel), List.mem_of_getElem? (i := 995) (by decide +kernel)⟩
theorem lw_p44 : lw_okq (⟨"MarkerWalksModel", "setBehind", "(III)I"⟩, 33) := ⟨⟨by decide +kernel, by decide +kernel⟩, List.mem_of_getElem? (i := 731) (by decide +kernel), List.mem_of_getElem? (i := 998) (by decide +kernel), List.mem_of_getElem? (i := 999) (by decide +kernel)⟩
theorem lw_p45 : lw_okq (⟨"MarkerWalksModel", "isOver", "()Z"⟩, 33) := ⟨⟨by decide +kernel, by decide +kernel⟩, List.mem_of_getElem? (i := 731) (by decide +kernel), List.mem_of_getElem? (i := 1006) (by decide +kernel), List.mem_of_getElem? (i := 1007) (by decide +kernel)⟩
theorem lw_p46 : lw_okq (⟨"MarkerWalksModel", "movesNow", "()I"⟩, 33) := ⟨⟨by decide +kernel, by decide +kernel⟩, List.mem_of_getElem? (i := 731) (by decide +kernel), List.mem_of_getElem? (i := 1010) (by decide +kernel), List.mem_of_getElem? (i := 1011) (by decide +kernel)⟩
theorem lw_p47 : lw_okq (⟨"MarkerWalksModel", "movesAt", "(II)I"⟩, 33) := ⟨⟨by decide +kernel, by decide +kernel⟩, List.mem_of_getElem? (i := 731) (by decide +kernel), List.mem_of_getElem? (i := 1014) (by decide +kernel), List.mem_of_getElem? (i := 1015) (by decide +kernel)⟩
def lw_privs_3 : List (MethodName × Nat) := [(⟨"MarkerWalksModel", "metBy", "(II)I"⟩, 33), (⟨"MarkerWalksModel", "isKernel", "(I)Z"⟩, 33), (⟨"MarkerWalksModel", "faultOf", "()I"⟩, 33), (⟨"MarkerWalksModel", "here", "(I)I"⟩, 33), (⟨"MarkerWalksModel", "beginsAt", "(II)V"⟩, 33), (⟨"MarkerWalksModel", "setNow", "()I"⟩, 33), (⟨"MarkerWalksModel", "isByLines", "()Z"⟩, 33), (⟨"MarkerWalksModel", "winsAt", "(II)Z"⟩, 33), (⟨"MarkerWalksModel", "tables", "()V"⟩, 33), (⟨"MarkerWalksModel", "worthAt", "(II)I"⟩, 33), (⟨"MarkerWalksModel", "isMove", "(III)Z"⟩, 33), (⟨"MarkerWalksModel", "isByWays", "()Z"⟩, 33), (⟨"MarkerWalksModel", "setBehind", "(III)I"⟩, 33), (⟨"MarkerWalksModel", "isOver", "()Z"⟩, 33), (⟨"MarkerWalksModel", "movesNow", "()I"⟩, 33), (⟨"MarkerWalksModel", "movesAt", "(II)I"⟩, 33)]
theorem lw_r3 : ∀ q ∈ lw_privs_3, lw_okq q := List.forall_mem_cons.mpr ⟨lw_p32, List.forall_mem_cons.mpr ⟨lw_p33, List.forall_mem_cons.mpr ⟨lw_p34, List.forall_mem_cons.mpr ⟨lw_p35, List.forall_mem_cons.mpr ⟨lw_p36, List.forall_mem_cons.mpr ⟨lw_p37, List.forall_mem_cons.mpr ⟨lw_p38, List.forall_mem_cons.mpr ⟨lw_p39, List.forall_mem_cons.mpr ⟨lw_p40, List.forall_mem_cons.mpr ⟨lw_p41, List.forall_mem_cons.mpr ⟨lw_p42, List.forall_mem_cons.mpr ⟨lw_p43, List.forall_mem_cons.mpr ⟨lw_p44, List.forall_mem_cons.mpr ⟨lw_p45, List.forall_mem_cons.mpr ⟨lw_p46, List.forall_mem_cons.mpr ⟨lw_p47, fun _ h => absurd h List.not_mem_nil⟩⟩⟩⟩⟩⟩⟩⟩⟩⟩⟩⟩⟩⟩⟩⟩
theorem lw_p48 : lw_okq (⟨"MarkerWalksModel", "goes", "(I)V"⟩, 33) := ⟨⟨by decide +kernel, by decide +kernel⟩, List.mem_of_getElem? (i := 731) (by decide +kernel), List.mem_of_getElem? (i := 1018) (by decide +kernel), List.mem_of_getElem? (i := 1019) (by decide +kernel)⟩
theorem lw_p49 : lw_okq (⟨"MarkerWalksModel", "goesBack", "()V"⟩, 33) := ⟨⟨by decide +kernel, by decide +kernel⟩, List.mem_of_getElem? (i := 731) (by decide +kernel), List.mem_of_getElem? (i := 1026) (by decide +kernel), List.mem_of_getElem? (i := 1027) (by decide +kernel)⟩
theorem lw_p50 : lw_okq (⟨"MarkerWalksModel", "mover", "()I"⟩, 33) := ⟨⟨by decide +kernel, by decide +kernel⟩, List.mem_of_getElem? (i := 731) (by decide +kernel), List.mem_of_getElem? (i := 1034) (by decide +kernel), List.mem_of_getElem? (i := 1035) (by decide +kernel)⟩
theorem lw_p51 : lw_okq (⟨"MarkerWalksModel", "winner", "()I"⟩, 33) := ⟨⟨by decide +kernel, by decide +kernel⟩, List.mem_of_getElem? (i := 731) (by decide +kernel), List.mem_of_getElem? (i := 1038) (by decide +kernel), List.mem_of_getElem? (i := 1039) (by decide +kernel)⟩
theorem lw_p52 : lw_okq (⟨"MarkerWalksModel", "winning", "()I"⟩, 33) := ⟨⟨by decide +kernel, by decide +kernel⟩, List.mem_of_getElem? (i := 731) (by decide +kernel), List.mem_of_getElem? (i := 1050) (by decide +kernel), List.mem_of_getElem? (i := 1051) (by decide +kernel)⟩
theorem lw_p53 : lw_okq (⟨"MarkerWalksModel", "winsBehind", "(I)Z"⟩, 33) := ⟨⟨by decide +kernel, by decide +kernel⟩, List.mem_of_getElem? (i := 731) (by decide +kernel), List.mem_of_getElem? (i := 1054) (by decide +kernel), List.mem_of_getElem? (i := 1055) (by decide +kernel)⟩
theorem lw_p54 : lw_okq (⟨"MarkerWalksModel", "longAt", "(II)I"⟩, 33) := ⟨⟨by decide +kernel, by decide +kernel⟩, List.mem_of_getElem? (i := 731) (by decide +kernel), List.mem_of_getElem? (i := 1062) (by decide +kernel), List.mem_of_getElem? (i := 1063) (by decide +kernel)⟩
theorem lw_p55 : lw_okq (⟨"MarkerWalksModel", "nimAt", "(II)I"⟩, 33) := ⟨⟨by decide +kernel, by decide +kernel⟩, List.mem_of_getElem? (i := 731) (by decide +kernel), List.mem_of_getElem? (i := 1066) (by decide +kernel), List.mem_of_getElem? (i := 1067) (by decide +kernel)⟩
theorem lw_p56 : lw_okq (⟨"MarkerWalksModel", "reaches", "(II)I"⟩, 33) := ⟨⟨by decide +kernel, by decide +kernel⟩, List.mem_of_getElem? (i := 731) (by decide +kernel), List.mem_of_getElem? (i := 1074) (by decide +kernel), List.mem_of_getElem? (i := 1075) (by decide +kernel)⟩
theorem lw_p57 : lw_okq (⟨"MarkerWalksModel", "planned", "(I)I"⟩, 33) := ⟨⟨by decide +kernel, by decide +kernel⟩, List.mem_of_getElem? (i := 731) (by decide +kernel), List.mem_of_getElem? (i := 1089) (by decide +kernel), List.mem_of_getElem? (i := 1090) (by decide +kernel)⟩
theorem lw_p58 : lw_okq (⟨"MarkerWalksModel", "simple", "(I)I"⟩, 33) := ⟨⟨by decide +kernel, by decide +kernel⟩, List.mem_of_getElem? (i := 731) (by decide +kernel), List.mem_of_getElem? (i := 1093) (by decide +kernel), List.mem_of_getElem? (i := 1094) (by decide +kernel)⟩
theorem lw_p59 : lw_okq (⟨"MarkerWalksModel", "paired", "(I)I"⟩, 33) := ⟨⟨by decide +kernel, by decide +kernel⟩, List.mem_of_getElem? (i := 731) (by decide +kernel), List.mem_of_getElem? (i := 1103) (by decide +kernel), List.mem_of_getElem? (i := 1104) (by decide +kernel)⟩
theorem lw_p60 : lw_okq (⟨"MarkerWalksModel", "drawn", "(I)I"⟩, 33) := ⟨⟨by decide +kernel, by decide +kernel⟩, List.mem_of_getElem? (i := 731) (by decide +kernel), List.mem_of_getElem? (i := 1107) (by decide +kernel), List.mem_of_getElem? (i := 1108) (by decide +kernel)⟩
theorem lw_p61 : lw_okq (⟨"MarkerWalksModel", "bestBy", "(IZ)I"⟩, 33) := ⟨⟨by decide +kernel, by decide +kernel⟩, List.mem_of_getElem? (i := 731) (by decide +kernel), List.mem_of_getElem? (i := 1112) (by decide +kernel), List.mem_of_getElem? (i := 1113) (by decide +kernel)⟩
theorem lw_p62 : lw_okq (⟨"MarkerWalksModel", "plays", "(III)I"⟩, 33) := ⟨⟨by decide +kernel, by decide +kernel⟩, List.mem_of_getElem? (i := 731) (by decide +kernel), List.mem_of_getElem? (i := 1120) (by decide +kernel), List.mem_of_getElem? (i := 1121) (by decide +kernel)⟩
theorem lw_p63 : lw_okq (⟨"MarkerWalksModel", "isGrown", "()Z"⟩, 33) := ⟨⟨by decide +kernel, by decide +kernel⟩, List.mem_of_getElem? (i := 731) (by decide +kernel), List.mem_of_getElem? (i := 1132) (by decide +kernel), List.mem_of_getElem? (i := 1133) (by decide +kernel)⟩
def lw_privs_4 : List (MethodName × Nat) := [(⟨"MarkerWalksModel", "goes", "(I)V"⟩, 33), (⟨"MarkerWalksModel", "goesBack", "()V"⟩, 33), (⟨"MarkerWalksModel", "mover", "()I"⟩, 33), (⟨"MarkerWalksModel", "winner", "()I"⟩, 33), (⟨"MarkerWalksModel", "winning", "()I"⟩, 33), (⟨"MarkerWalksModel", "winsBehind", "(I)Z"⟩, 33), (⟨"MarkerWalksModel", "longAt", "(II)I"⟩, 33), (⟨"MarkerWalksModel", "nimAt", "(II)I"⟩, 33), (⟨"MarkerWalksModel", "reaches", "(II)I"⟩, 33), (⟨"MarkerWalksModel", "planned", "(I)I"⟩, 33), (⟨"MarkerWalksModel", "simple", "(I)I"⟩, 33), (⟨"MarkerWalksModel", "paired", "(I)I"⟩, 33), (⟨"MarkerWalksModel", "drawn", "(I)I"⟩, 33), (⟨"MarkerWalksModel", "bestBy", "(IZ)I"⟩, 33), (⟨"MarkerWalksModel", "plays", "(III)I"⟩, 33), (⟨"MarkerWalksModel", "isGrown", "()Z"⟩, 33)]
theorem lw_r4 : ∀ q ∈ lw_privs_4, lw_okq q := List.forall_mem_cons.mpr ⟨lw_p48, List.forall_mem_cons.mpr ⟨lw_p49, List.forall_mem_cons.mpr ⟨lw_p50, List.forall_mem_cons.mpr ⟨lw_p51, List.forall_mem_cons.mpr ⟨lw_p52, List.forall_mem_cons.mpr ⟨lw_p53, List.forall_mem_cons.mpr ⟨lw_p54, List.forall_mem_cons.mpr ⟨lw_p55, List.forall_mem_cons.mpr ⟨lw_p56, List.forall_mem_cons.mpr ⟨lw_p57, List.forall_mem_cons.mpr ⟨lw_p58, List.forall_mem_cons.mpr ⟨lw_p59, List.forall_mem_cons.mpr ⟨lw_p60, List.forall_mem_cons.mpr ⟨lw_p61, List.forall_mem_cons.mpr ⟨lw_p62, List.forall_mem_cons.mpr ⟨lw_p63, fun _ h => absurd h List.not_mem_nil⟩⟩⟩⟩⟩⟩⟩⟩⟩⟩⟩⟩⟩⟩⟩⟩
theorem lw_p64 : lw_okq (⟨"MarkerWalksModel", "grows", "(IIZII)V"⟩, 33) := ⟨⟨by decide +kernel, by decide +kernel⟩, List.mem_of_getElem? (i := 731) (by decide +kernel), List.mem_of_getElem? (i := 1136) (by decide +kernel), List.mem_of_getElem? (i := 1137) (by decide +kernel)⟩
theorem lw_p65 : lw_okq (⟨"MarkerWalksModel", "wrongCell", "(II)I"⟩, 33) := ⟨⟨by decide +kernel, by decide +kernel⟩, List.mem_of_getElem? (i := 731) (by decide +kernel), List.mem_of_getElem? (i := 1155) (by decide +kernel), List.mem_of_getElem? (i := 1156) (by decide +kernel)⟩
theorem lw_p66 : lw_okq (⟨"MarkerWalksModel", "lays", "(III)V"⟩, 33) := ⟨⟨by decide +kernel, by decide +kernel⟩, List.mem_of_getElem? (i := 731) (by decide +kernel), List.mem_of_getElem? (i := 1159) (by decide +kernel), List.mem_of_getElem? (i := 1160) (by decide +kernel)⟩
theorem lw_p67 : lw_okq (⟨"MarkerWalksModel", "sheetsThere", "()I"⟩, 33) := ⟨⟨by decide +kernel, by decide +kernel⟩, List.mem_of_getElem? (i := 731) (by decide +kernel), List.mem_of_getElem? (i := 1195) (by decide +kernel), List.mem_of_getElem? (i := 1196) (by decide +kernel)⟩
def lw_privs_5 : List (MethodName × Nat) := [(⟨"MarkerWalksModel", "grows", "(IIZII)V"⟩, 33), (⟨"MarkerWalksModel", "wrongCell", "(II)I"⟩, 33), (⟨"MarkerWalksModel", "lays", "(III)V"⟩, 33), (⟨"MarkerWalksModel", "sheetsThere", "()I"⟩, 33)]
theorem lw_r5 : ∀ q ∈ lw_privs_5, lw_okq q := List.forall_mem_cons.mpr ⟨lw_p64, List.forall_mem_cons.mpr ⟨lw_p65, List.forall_mem_cons.mpr ⟨lw_p66, List.forall_mem_cons.mpr ⟨lw_p67, fun _ h => absurd h List.not_mem_nil⟩⟩⟩⟩
def lw_privs : List (MethodName × Nat) := lw_privs_1 ++ (lw_privs_2 ++ (lw_privs_3 ++ (lw_privs_4 ++ (lw_privs_5))))
def lw_tbl : List Cond := k2_sels lw_privs ++ tables_1
theorem lw_privs_ok : ∀ q ∈ lw_privs, lw_okq q := by
  show ∀ q ∈ lw_privs_1 ++ (lw_privs_2 ++ (lw_privs_3 ++ (lw_privs_4 ++ (lw_privs_5)))), lw_okq q
  exact List.forall_mem_append.mpr ⟨lw_r1, List.forall_mem_append.mpr ⟨lw_r2, List.forall_mem_append.mpr ⟨lw_r3, List.forall_mem_append.mpr ⟨lw_r4, lw_r5⟩⟩⟩⟩
-- ===== end of PART A; then your names; then what follows =====
def RX0 : String := "MarkerWalks$Game"
def TX0 : u_T := fun k => match k with
  | 0 => ("MarkerWalks$Game", "on", "Z", false)
  | 1 => ("MarkerWalks$Game", "rule", "I", false)
  | 2 => ("MarkerWalks$Game", "made", "I", false)
  | 3 => ("MarkerWalks$Game", "taken", "[I", true)
  | _ => ("MarkerWalks$Game", "stands", "[I", true)
def tyX0 : Nat → FieldType := fun k => match k with
  | 0 => .boolean
  | 1 => .int
  | 2 => .int
  | 3 => .array .int
  | _ => .array .int
abbrev wsX00 : List Cond := u_ws RX0 TX0 5
theorem nmX0 : ∀ a, a < 5 → ∀ b, b < 5 → a ≠ b → (TX0 a).2.1 ≠ (TX0 b).2.1 := by decide +kernel
theorem tyX0_ok : ∀ k, k < 5 → parseFieldDescriptor (TX0 k).2.2.1 = some (tyX0 k) := by decide +kernel
abbrev cX0_init : ByteArray := prog_2_method_1_code
def yX0_init : MethodName := ⟨RX0, "<init>", "()V"⟩
abbrev cX0_start : ByteArray := prog_2_method_2_code
def yX0_start : MethodName := ⟨RX0, "start", "(II)V"⟩
abbrev cX0_stand : ByteArray := prog_2_method_3_code
def yX0_stand : MethodName := ⟨RX0, "stand", "()I"⟩
abbrev cX0_advance : ByteArray := prog_2_method_4_code
def yX0_advance : MethodName := ⟨RX0, "advance", "(II)V"⟩
def RX1 : String := "MarkerWalks$Judge"
def TX1 : u_T := fun k => match k with
  | 0 => ("MarkerWalks$Judge", "net", "LMarkerWalks$Network;", true)
  | 1 => ("MarkerWalks$Judge", "found", "[I", true)
  | 2 => ("MarkerWalks$Judge", "turn", "I", false)
  | _ => ("MarkerWalks$Judge", "rule", "I", false)
def tyX1 : Nat → FieldType := fun k => match k with
  | 0 => .object "MarkerWalks$Network"
  | 1 => .array .int
  | 2 => .int
  | _ => .int
abbrev wsX10 : List Cond := u_ws RX1 TX1 4
theorem nmX1 : ∀ a, a < 4 → ∀ b, b < 4 → a ≠ b → (TX1 a).2.1 ≠ (TX1 b).2.1 := by decide +kernel
theorem tyX1_ok : ∀ k, k < 4 → parseFieldDescriptor (TX1 k).2.2.1 = some (tyX1 k) := by decide +kernel
abbrev cX1_init : ByteArray := prog_3_method_1_code
def yX1_init : MethodName := ⟨RX1, "<init>", "(LMarkerWalks$Network;)V"⟩
abbrev cX1_turnTo : ByteArray := prog_3_method_2_code
def yX1_turnTo : MethodName := ⟨RX1, "turnTo", "(I)V"⟩
abbrev cX1_movesFrom : ByteArray := prog_3_method_3_code
def yX1_movesFrom : MethodName := ⟨RX1, "movesFrom", "(I)I"⟩
abbrev cX1_overLines : ByteArray := prog_3_method_4_code
def yX1_overLines : MethodName := ⟨RX1, "overLines", "()Z"⟩
abbrev cX1_behind : ByteArray := prog_3_method_5_code
def yX1_behind : MethodName := ⟨RX1, "behind", "(II)I"⟩
abbrev cX1_wins : ByteArray := prog_3_method_6_code
def yX1_wins : MethodName := ⟨RX1, "wins", "(I)Z"⟩
abbrev cX1_winner : ByteArray := prog_3_method_7_code
def yX1_winner : MethodName := ⟨RX1, "winner", "(II)I"⟩
abbrev cX1_lengthFrom : ByteArray := prog_3_method_8_code
def yX1_lengthFrom : MethodName := ⟨RX1, "lengthFrom", "(I)I"⟩
abbrev cX1_nimFrom : ByteArray := prog_3_method_9_code
def yX1_nimFrom : MethodName := ⟨RX1, "nimFrom", "(I)I"⟩
abbrev cX1_winningFrom : ByteArray := prog_3_method_10_code
def yX1_winningFrom : MethodName := ⟨RX1, "winningFrom", "(I)I"⟩
abbrev cX1_weigh : ByteArray := prog_3_method_11_code
def yX1_weigh : MethodName := ⟨RX1, "weigh", "(II)I"⟩
abbrev cX1_joined : ByteArray := prog_3_method_12_code
def yX1_joined : MethodName := ⟨RX1, "joined", "(III)I"⟩
abbrev cX1_winsAs : ByteArray := prog_3_method_13_code
def yX1_winsAs : MethodName := ⟨RX1, "winsAs", "(I)Z"⟩
abbrev cX1_lengthAs : ByteArray := prog_3_method_14_code
def yX1_lengthAs : MethodName := ⟨RX1, "lengthAs", "(I)I"⟩
abbrev cX1_nimAs : ByteArray := prog_3_method_15_code
def yX1_nimAs : MethodName := ⟨RX1, "nimAs", "(I)I"⟩
abbrev cX1_reachFrom : ByteArray := prog_3_method_16_code
def yX1_reachFrom : MethodName := ⟨RX1, "reachFrom", "(I)I"⟩
abbrev cX1_spread : ByteArray := prog_3_method_17_code
def yX1_spread : MethodName := ⟨RX1, "spread", "(I)I"⟩
abbrev cX1_farEnds : ByteArray := prog_3_method_18_code
def yX1_farEnds : MethodName := ⟨RX1, "farEnds", "(II)I"⟩
def RX2 : String := "MarkerWalks$Network"
def TX2 : u_T := fun k => match k with
  | 0 => ("MarkerWalks$Network", "size", "I", false)
  | 1 => ("MarkerWalks$Network", "lines", "I", false)
  | 2 => ("MarkerWalks$Network", "from", "[I", true)
  | 3 => ("MarkerWalks$Network", "to", "[I", true)
  | 4 => ("MarkerWalks$Network", "ways", "[I", true)
  | 5 => ("MarkerWalks$Network", "touching", "[I", true)
  | 6 => ("MarkerWalks$Network", "leaving", "[I", true)
  | 7 => ("MarkerWalks$Network", "coming", "[I", true)
  | 8 => ("MarkerWalks$Network", "beside", "[I", true)
  | _ => ("MarkerWalks$Network", "ahead", "[I", true)
def tyX2 : Nat → FieldType := fun k => match k with
  | 0 => .int
  | 1 => .int
  | 2 => .array .int
  | 3 => .array .int
  | 4 => .array .int
  | 5 => .array .int
  | 6 => .array .int
  | 7 => .array .int
  | 8 => .array .int
  | _ => .array .int
abbrev wsX20 : List Cond := u_ws RX2 TX2 10
theorem nmX2 : ∀ a, a < 10 → ∀ b, b < 10 → a ≠ b → (TX2 a).2.1 ≠ (TX2 b).2.1 := by decide +kernel
theorem tyX2_ok : ∀ k, k < 10 → parseFieldDescriptor (TX2 k).2.2.1 = some (tyX2 k) := by decide +kernel
abbrev cX2_init : ByteArray := prog_4_method_1_code
def yX2_init : MethodName := ⟨RX2, "<init>", "()V"⟩
abbrev cX2_hasPoint : ByteArray := prog_4_method_2_code
def yX2_hasPoint : MethodName := ⟨RX2, "hasPoint", "(I)Z"⟩
abbrev cX2_hasLine : ByteArray := prog_4_method_3_code
def yX2_hasLine : MethodName := ⟨RX2, "hasLine", "(I)Z"⟩
abbrev cX2_everyPoint : ByteArray := prog_4_method_4_code
def yX2_everyPoint : MethodName := ⟨RX2, "everyPoint", "()I"⟩
abbrev cX2_clear : ByteArray := prog_4_method_5_code
def yX2_clear : MethodName := ⟨RX2, "clear", "(I)V"⟩
abbrev cX2_join : ByteArray := prog_4_method_6_code
def yX2_join : MethodName := ⟨RX2, "join", "(III)V"⟩
abbrev cX2_turn : ByteArray := prog_4_method_7_code
def yX2_turn : MethodName := ⟨RX2, "turn", "(II)V"⟩
abbrev cX2_remove : ByteArray := prog_4_method_8_code
def yX2_remove : MethodName := ⟨RX2, "remove", "(I)V"⟩
abbrev cX2_become : ByteArray := prog_4_method_9_code
def yX2_become : MethodName := ⟨RX2, "become", "(LMarkerWalks$Network;)V"⟩
abbrev cX2_gather : ByteArray := prog_4_method_10_code
def yX2_gather : MethodName := ⟨RX2, "gather", "()V"⟩
abbrev cX2_lead : ByteArray := prog_4_method_11_code
def yX2_lead : MethodName := ⟨RX2, "lead", "(III)V"⟩
abbrev cX2_degree : ByteArray := prog_4_method_12_code
def yX2_degree : MethodName := ⟨RX2, "degree", "(II)I"⟩
abbrev cX2_otherEnd : ByteArray := prog_4_method_13_code
def yX2_otherEnd : MethodName := ⟨RX2, "otherEnd", "(II)I"⟩
abbrev cX2_endsAsSet : ByteArray := prog_4_method_14_code
def yX2_endsAsSet : MethodName := ⟨RX2, "endsAsSet", "(I)I"⟩
abbrev cX2_sideZero : ByteArray := prog_4_method_15_code
def yX2_sideZero : MethodName := ⟨RX2, "sideZero", "()I"⟩
abbrev cX2_neighbours : ByteArray := prog_4_method_16_code
def yX2_neighbours : MethodName := ⟨RX2, "neighbours", "(I)I"⟩
abbrev cX2_isKernel : ByteArray := prog_4_method_17_code
def yX2_isKernel : MethodName := ⟨RX2, "isKernel", "(I)Z"⟩
abbrev cX2_mostPairs : ByteArray := prog_4_method_18_code
def yX2_mostPairs : MethodName := ⟨RX2, "mostPairs", "(I)I"⟩
abbrev cX2_pairsAmong : ByteArray := prog_4_method_19_code
def yX2_pairsAmong : MethodName := ⟨RX2, "pairsAmong", "(II)I"⟩
abbrev cX2_leastPairing : ByteArray := prog_4_method_20_code
def yX2_leastPairing : MethodName := ⟨RX2, "leastPairing", "(I)I"⟩
abbrev cX2_neededPoints : ByteArray := prog_4_method_21_code
def yX2_neededPoints : MethodName := ⟨RX2, "neededPoints", "()I"⟩
def RX3 : String := "MarkerWalks$Planner"
def TX3 : u_T := fun k => match k with
  | 0 => ("MarkerWalks$Planner", "net", "LMarkerWalks$Network;", true)
  | 1 => ("MarkerWalks$Planner", "judge", "LMarkerWalks$Judge;", true)
  | _ => ("MarkerWalks$Planner", "z", "I", false)
def tyX3 : Nat → FieldType := fun k => match k with
  | 0 => .object "MarkerWalks$Network"
  | 1 => .object "MarkerWalks$Judge"
  | _ => .int
abbrev wsX30 : List Cond := u_ws RX3 TX3 3
theorem nmX3 : ∀ a, a < 3 → ∀ b, b < 3 → a ≠ b → (TX3 a).2.1 ≠ (TX3 b).2.1 := by decide +kernel
theorem tyX3_ok : ∀ k, k < 3 → parseFieldDescriptor (TX3 k).2.2.1 = some (tyX3 k) := by decide +kernel
abbrev cX3_init : ByteArray := prog_5_method_1_code
def yX3_init : MethodName := ⟨RX3, "<init>", "(LMarkerWalks$Network;LMarkerWalks$Judge;)V"⟩
abbrev cX3_advice : ByteArray := prog_5_method_2_code
def yX3_advice : MethodName := ⟨RX3, "advice", "(III)I"⟩
abbrev cX3_simple : ByteArray := prog_5_method_3_code
def yX3_simple : MethodName := ⟨RX3, "simple", "(II)I"⟩
abbrev cX3_least : ByteArray := prog_5_method_4_code
def yX3_least : MethodName := ⟨RX3, "least", "(I)I"⟩
abbrev cX3_greatest : ByteArray := prog_5_method_5_code
def yX3_greatest : MethodName := ⟨RX3, "greatest", "(I)I"⟩
abbrev cX3_pairAtMarker : ByteArray := prog_5_method_6_code
def yX3_pairAtMarker : MethodName := ⟨RX3, "pairAtMarker", "(I)I"⟩
abbrev cX3_drawn : ByteArray := prog_5_method_7_code
def yX3_drawn : MethodName := ⟨RX3, "drawn", "(I)I"⟩
abbrev cX3_narrowest : ByteArray := prog_5_method_8_code
def yX3_narrowest : MethodName := ⟨RX3, "narrowest", "(II)I"⟩
abbrev cX3_slowest : ByteArray := prog_5_method_9_code
def yX3_slowest : MethodName := ⟨RX3, "slowest", "(II)I"⟩
def RX4 : String := "MarkerWalks$Sheet"
def TX4 : u_T := fun k => match k with
  | 0 => ("MarkerWalks$Sheet", "bits", "I", false)
  | 1 => ("MarkerWalks$Sheet", "size", "I", false)
  | _ => ("MarkerWalks$Sheet", "row", "[I", true)
def tyX4 : Nat → FieldType := fun k => match k with
  | 0 => .int
  | 1 => .int
  | _ => .array .int
abbrev wsX40 : List Cond := u_ws RX4 TX4 3
theorem nmX4 : ∀ a, a < 3 → ∀ b, b < 3 → a ≠ b → (TX4 a).2.1 ≠ (TX4 b).2.1 := by decide +kernel
theorem tyX4_ok : ∀ k, k < 3 → parseFieldDescriptor (TX4 k).2.2.1 = some (tyX4 k) := by decide +kernel
abbrev cX4_init : ByteArray := prog_6_method_1_code
def yX4_init : MethodName := ⟨RX4, "<init>", "()V"⟩
abbrev cX4_isMissing : ByteArray := prog_6_method_2_code
def yX4_isMissing : MethodName := ⟨RX4, "isMissing", "()Z"⟩
abbrev cX4_renew : ByteArray := prog_6_method_3_code
def yX4_renew : MethodName := ⟨RX4, "renew", "(II)V"⟩
abbrev cX4_write : ByteArray := prog_6_method_4_code
def yX4_write : MethodName := ⟨RX4, "write", "(II)V"⟩
abbrev cX4_hasRun : ByteArray := prog_6_method_5_code
def yX4_hasRun : MethodName := ⟨RX4, "hasRun", "(II)Z"⟩
def RX5 : String := "MarkerWalks$Stand"
def TX5 : u_T := fun k => match k with
  | _ => ("", "", "", false)
def tyX5 : Nat → FieldType := fun k => match k with
  | _ => .int
abbrev wsX50 : List Cond := u_ws RX5 TX5 0
theorem nmX5 : ∀ a, a < 0 → ∀ b, b < 0 → a ≠ b → (TX5 a).2.1 ≠ (TX5 b).2.1 := by decide +kernel
theorem tyX5_ok : ∀ k, k < 0 → parseFieldDescriptor (TX5 k).2.2.1 = some (tyX5 k) := by decide +kernel
abbrev cX5_atFirst : ByteArray := prog_7_method_2_code
def yX5_atFirst : MethodName := ⟨RX5, "atFirst", "(I)I"⟩
abbrev cX5_marker : ByteArray := prog_7_method_3_code
def yX5_marker : MethodName := ⟨RX5, "marker", "(I)I"⟩
abbrev cX5_met : ByteArray := prog_7_method_4_code
def yX5_met : MethodName := ⟨RX5, "met", "(I)I"⟩
abbrev cX5_gone : ByteArray := prog_7_method_5_code
def yX5_gone : MethodName := ⟨RX5, "gone", "(I)I"⟩
abbrev cX5_markerAndMet : ByteArray := prog_7_method_6_code
def yX5_markerAndMet : MethodName := ⟨RX5, "markerAndMet", "(I)I"⟩
abbrev cX5_withMarker : ByteArray := prog_7_method_7_code
def yX5_withMarker : MethodName := ⟨RX5, "withMarker", "(II)I"⟩
abbrev cX5_behind : ByteArray := prog_7_method_8_code
def yX5_behind : MethodName := ⟨RX5, "behind", "(III)I"⟩
def RX6 : String := "MarkerWalks$Tape"
def TX6 : u_T := fun k => match k with
  | 0 => ("MarkerWalks$Tape", "length", "I", false)
  | _ => ("MarkerWalks$Tape", "bytes", "[I", true)
def tyX6 : Nat → FieldType := fun k => match k with
  | 0 => .int
  | _ => .array .int
abbrev wsX60 : List Cond := u_ws RX6 TX6 2
theorem nmX6 : ∀ a, a < 2 → ∀ b, b < 2 → a ≠ b → (TX6 a).2.1 ≠ (TX6 b).2.1 := by decide +kernel
theorem tyX6_ok : ∀ k, k < 2 → parseFieldDescriptor (TX6 k).2.2.1 = some (tyX6 k) := by decide +kernel
abbrev cX6_init : ByteArray := prog_8_method_1_code
def yX6_init : MethodName := ⟨RX6, "<init>", "()V"⟩
abbrev cX6_add : ByteArray := prog_8_method_2_code
def yX6_add : MethodName := ⟨RX6, "add", "(JI)V"⟩
abbrev cX6_fault : ByteArray := prog_8_method_3_code
def yX6_fault : MethodName := ⟨RX6, "fault", "()I"⟩
abbrev cX6_fits : ByteArray := prog_8_method_4_code
def yX6_fits : MethodName := ⟨RX6, "fits", "(I)Z"⟩
abbrev cX6_isLetter : ByteArray := prog_8_method_5_code
def yX6_isLetter : MethodName := ⟨RX6, "isLetter", "(I)Z"⟩
abbrev cX6_tell : ByteArray := prog_8_method_6_code
def yX6_tell : MethodName := ⟨RX6, "tell", "(LMarkerWalks$Network;)V"⟩
abbrev cX6_wayOf : ByteArray := prog_8_method_7_code
def yX6_wayOf : MethodName := ⟨RX6, "wayOf", "(I)I"⟩
def RX7 : String := "MarkerWalks$Tree"
def TX7 : u_T := fun k => match k with
  | 0 => ("MarkerWalks$Tree", "net", "LMarkerWalks$Network;", true)
  | 1 => ("MarkerWalks$Tree", "judge", "LMarkerWalks$Judge;", true)
  | 2 => ("MarkerWalks$Tree", "ways", "[I", true)
  | 3 => ("MarkerWalks$Tree", "nodes", "I", false)
  | 4 => ("MarkerWalks$Tree", "leaves", "I", false)
  | 5 => ("MarkerWalks$Tree", "deepest", "I", false)
  | _ => ("MarkerWalks$Tree", "overfull", "Z", false)
def tyX7 : Nat → FieldType := fun k => match k with
  | 0 => .object "MarkerWalks$Network"
  | 1 => .object "MarkerWalks$Judge"
  | 2 => .array .int
  | 3 => .int
  | 4 => .int
  | 5 => .int
  | _ => .boolean
abbrev wsX70 : List Cond := u_ws RX7 TX7 7
theorem nmX7 : ∀ a, a < 7 → ∀ b, b < 7 → a ≠ b → (TX7 a).2.1 ≠ (TX7 b).2.1 := by decide +kernel
theorem tyX7_ok : ∀ k, k < 7 → parseFieldDescriptor (TX7 k).2.2.1 = some (tyX7 k) := by decide +kernel
abbrev cX7_init : ByteArray := prog_9_method_1_code
def yX7_init : MethodName := ⟨RX7, "<init>", "(LMarkerWalks$Network;LMarkerWalks$Judge;)V"⟩
abbrev cX7_build : ByteArray := prog_9_method_2_code
def yX7_build : MethodName := ⟨RX7, "build", "(I)Z"⟩
abbrev cX7_grow : ByteArray := prog_9_method_3_code
def yX7_grow : MethodName := ⟨RX7, "grow", "(III)V"⟩
def RX8 : String := "MarkerWalks"
def TX8 : u_T := fun k => match k with
  | 0 => ("MarkerWalks", "net", "LMarkerWalks$Network;", true)
  | 1 => ("MarkerWalks", "kept", "LMarkerWalks$Network;", true)
  | 2 => ("MarkerWalks", "judge", "LMarkerWalks$Judge;", true)
  | 3 => ("MarkerWalks", "planner", "LMarkerWalks$Planner;", true)
  | 4 => ("MarkerWalks", "winnersTree", "LMarkerWalks$Tree;", true)
  | 5 => ("MarkerWalks", "current", "LMarkerWalks$Game;", true)
  | 6 => ("MarkerWalks", "tape", "LMarkerWalks$Tape;", true)
  | 7 => ("MarkerWalks", "sheets", "[LMarkerWalks$Sheet;", true)
  | 8 => ("MarkerWalks", "errors", "[I", true)
  | 9 => ("MarkerWalks", "hasImage", "Z", false)
  | _ => ("MarkerWalks", "keptZ", "I", false)
def tyX8 : Nat → FieldType := fun k => match k with
  | 0 => .object "MarkerWalks$Network"
  | 1 => .object "MarkerWalks$Network"
  | 2 => .object "MarkerWalks$Judge"
  | 3 => .object "MarkerWalks$Planner"
  | 4 => .object "MarkerWalks$Tree"
  | 5 => .object "MarkerWalks$Game"
  | 6 => .object "MarkerWalks$Tape"
  | 7 => .array (.object "MarkerWalks$Sheet")
  | 8 => .array .int
  | 9 => .boolean
  | _ => .int
abbrev wsX80 : List Cond := u_ws RX8 TX8 11
theorem nmX8 : ∀ a, a < 11 → ∀ b, b < 11 → a ≠ b → (TX8 a).2.1 ≠ (TX8 b).2.1 := by decide +kernel
theorem tyX8_ok : ∀ k, k < 11 → parseFieldDescriptor (TX8 k).2.2.1 = some (tyX8 k) := by decide +kernel
abbrev cX8_init : ByteArray := prog_1_method_1_code
def yX8_init : MethodName := ⟨RX8, "<init>", "()V"⟩
abbrev cX8_points : ByteArray := prog_1_method_2_code
def yX8_points : MethodName := ⟨RX8, "points", "(I)I"⟩
abbrev cX8_line : ByteArray := prog_1_method_3_code
def yX8_line : MethodName := ⟨RX8, "line", "(III)I"⟩
abbrev cX8_way : ByteArray := prog_1_method_4_code
def yX8_way : MethodName := ⟨RX8, "way", "(II)I"⟩
abbrev cX8_cut : ByteArray := prog_1_method_5_code
def yX8_cut : MethodName := ⟨RX8, "cut", "(I)I"⟩
abbrev cX8_ends : ByteArray := prog_1_method_6_code
def yX8_ends : MethodName := ⟨RX8, "ends", "(II)I"⟩
abbrev cX8_at : ByteArray := prog_1_method_7_code
def yX8_at : MethodName := ⟨RX8, "at", "(II)I"⟩
abbrev cX8_sides : ByteArray := prog_1_method_8_code
def yX8_sides : MethodName := ⟨RX8, "sides", "()I"⟩
abbrev cX8_pairing : ByteArray := prog_1_method_9_code
def yX8_pairing : MethodName := ⟨RX8, "pairing", "(II)I"⟩
abbrev cX8_needed : ByteArray := prog_1_method_10_code
def yX8_needed : MethodName := ⟨RX8, "needed", "()I"⟩
abbrev cX8_kernel : ByteArray := prog_1_method_11_code
def yX8_kernel : MethodName := ⟨RX8, "kernel", "(I)I"⟩
abbrev cX8_feed : ByteArray := prog_1_method_12_code
def yX8_feed : MethodName := ⟨RX8, "feed", "(JI)I"⟩
abbrev cX8_network : ByteArray := prog_1_method_13_code
def yX8_network : MethodName := ⟨RX8, "network", "()I"⟩
abbrev cX8_begin : ByteArray := prog_1_method_14_code
def yX8_begin : MethodName := ⟨RX8, "begin", "(II)I"⟩
abbrev cX8_go : ByteArray := prog_1_method_15_code
def yX8_go : MethodName := ⟨RX8, "go", "(I)I"⟩
abbrev cX8_back : ByteArray := prog_1_method_16_code
def yX8_back : MethodName := ⟨RX8, "back", "()I"⟩
abbrev cX8_game : ByteArray := prog_1_method_17_code
def yX8_game : MethodName := ⟨RX8, "game", "(I)I"⟩
abbrev cX8_moved : ByteArray := prog_1_method_18_code
def yX8_moved : MethodName := ⟨RX8, "moved", "(I)I"⟩
abbrev cX8_moves : ByteArray := prog_1_method_19_code
def yX8_moves : MethodName := ⟨RX8, "moves", "(I)I"⟩
abbrev cX8_worth : ByteArray := prog_1_method_20_code
def yX8_worth : MethodName := ⟨RX8, "worth", "(I)I"⟩
abbrev cX8_reach : ByteArray := prog_1_method_21_code
def yX8_reach : MethodName := ⟨RX8, "reach", "()I"⟩
abbrev cX8_starts : ByteArray := prog_1_method_22_code
def yX8_starts : MethodName := ⟨RX8, "starts", "(I)I"⟩
abbrev cX8_tells : ByteArray := prog_1_method_23_code
def yX8_tells : MethodName := ⟨RX8, "tells", "(I)I"⟩
abbrev cX8_play : ByteArray := prog_1_method_24_code
def yX8_play : MethodName := ⟨RX8, "play", "(III)I"⟩
abbrev cX8_fight : ByteArray := prog_1_method_25_code
def yX8_fight : MethodName := ⟨RX8, "fight", "(III)I"⟩
abbrev cX8_tree : ByteArray := prog_1_method_26_code
def yX8_tree : MethodName := ⟨RX8, "tree", "(I)I"⟩
abbrev cX8_node : ByteArray := prog_1_method_27_code
def yX8_node : MethodName := ⟨RX8, "node", "(I)I"⟩
abbrev cX8_sheet : ByteArray := prog_1_method_28_code
def yX8_sheet : MethodName := ⟨RX8, "sheet", "(III)I"⟩
abbrev cX8_put : ByteArray := prog_1_method_29_code
def yX8_put : MethodName := ⟨RX8, "put", "(III)I"⟩
abbrev cX8_number : ByteArray := prog_1_method_30_code
def yX8_number : MethodName := ⟨RX8, "number", "(II)I"⟩
abbrev cX8_copy : ByteArray := prog_1_method_31_code
def yX8_copy : MethodName := ⟨RX8, "copy", "(IIIII)I"⟩
abbrev cX8_degrees : ByteArray := prog_1_method_32_code
def yX8_degrees : MethodName := ⟨RX8, "degrees", "(II)I"⟩
abbrev cX8_walks : ByteArray := prog_1_method_33_code
def yX8_walks : MethodName := ⟨RX8, "walks", "(II)I"⟩
abbrev cX8_seed : ByteArray := prog_1_method_34_code
def yX8_seed : MethodName := ⟨RX8, "seed", "(I)I"⟩
abbrev cX8_image : ByteArray := prog_1_method_35_code
def yX8_image : MethodName := ⟨RX8, "image", "()I"⟩
abbrev cX8_restore : ByteArray := prog_1_method_36_code
def yX8_restore : MethodName := ⟨RX8, "restore", "()I"⟩
abbrev cX8_count : ByteArray := prog_1_method_37_code
def yX8_count : MethodName := ⟨RX8, "count", "(I)I"⟩
abbrev cX8_told : ByteArray := prog_1_method_38_code
def yX8_told : MethodName := ⟨RX8, "told", "(I)I"⟩
abbrev cX8_fail : ByteArray := prog_1_method_39_code
def yX8_fail : MethodName := ⟨RX8, "fail", "(I)I"⟩
abbrev cX8_isOver : ByteArray := prog_1_method_40_code
def yX8_isOver : MethodName := ⟨RX8, "isOver", "()Z"⟩
abbrev cX8_errorOfNumber : ByteArray := prog_1_method_41_code
def yX8_errorOfNumber : MethodName := ⟨RX8, "errorOfNumber", "(II)I"⟩
abbrev cX8_sheetsThere : ByteArray := prog_1_method_42_code
def yX8_sheetsThere : MethodName := ⟨RX8, "sheetsThere", "()I"⟩
abbrev cX8_isWay : ByteArray := prog_1_method_43_code
def yX8_isWay : MethodName := ⟨RX8, "isWay", "(I)Z"⟩
abbrev cX8_isRule : ByteArray := prog_1_method_44_code
def yX8_isRule : MethodName := ⟨RX8, "isRule", "(I)Z"⟩
abbrev cX8_isSheet : ByteArray := prog_1_method_45_code
def yX8_isSheet : MethodName := ⟨RX8, "isSheet", "(I)Z"⟩
abbrev cX8_isCode : ByteArray := prog_1_method_46_code
def yX8_isCode : MethodName := ⟨RX8, "isCode", "(I)Z"⟩
def RX9 : String := "MarkerWalksModel"
def TX9 : u_T := fun k => match k with
  | 0 => ("MarkerWalksModel", "errors", "[I", true)
  | 1 => ("MarkerWalksModel", "points", "I", false)
  | 2 => ("MarkerWalksModel", "lines", "I", false)
  | 3 => ("MarkerWalksModel", "from", "[I", true)
  | 4 => ("MarkerWalksModel", "to", "[I", true)
  | 5 => ("MarkerWalksModel", "ways", "[I", true)
  | 6 => ("MarkerWalksModel", "side", "[I", true)
  | 7 => ("MarkerWalksModel", "most", "I", false)
  | 8 => ("MarkerWalksModel", "necessary", "I", false)
  | 9 => ("MarkerWalksModel", "tape", "[I", true)
  | 10 => ("MarkerWalksModel", "taped", "I", false)
  | 11 => ("MarkerWalksModel", "hasGame", "Z", false)
  | 12 => ("MarkerWalksModel", "rule", "I", false)
  | 13 => ("MarkerWalksModel", "first", "I", false)
  | 14 => ("MarkerWalksModel", "marker", "I", false)
  | 15 => ("MarkerWalksModel", "met", "I", false)
  | 16 => ("MarkerWalksModel", "gone", "I", false)
  | 17 => ("MarkerWalksModel", "z", "I", false)
  | 18 => ("MarkerWalksModel", "made", "[I", true)
  | 19 => ("MarkerWalksModel", "many", "I", false)
  | 20 => ("MarkerWalksModel", "worths", "[I", true)
  | 21 => ("MarkerWalksModel", "nims", "[I", true)
  | 22 => ("MarkerWalksModel", "tabled", "I", false)
  | 23 => ("MarkerWalksModel", "been", "[Z", true)
  | 24 => ("MarkerWalksModel", "nodes", "I", false)
  | 25 => ("MarkerWalksModel", "leaves", "I", false)
  | 26 => ("MarkerWalksModel", "depth", "I", false)
  | 27 => ("MarkerWalksModel", "lineTo", "[I", true)
  | 28 => ("MarkerWalksModel", "widths", "[I", true)
  | 29 => ("MarkerWalksModel", "sizes", "[I", true)
  | 30 => ("MarkerWalksModel", "cells", "[I", true)
  | 31 => ("MarkerWalksModel", "kept", "[I", true)
  | _ => ("MarkerWalksModel", "hasImage", "Z", false)
def tyX9 : Nat → FieldType := fun k => match k with
  | 0 => .array .int
  | 1 => .int
  | 2 => .int
  | 3 => .array .int
  | 4 => .array .int
  | 5 => .array .int
  | 6 => .array .int
  | 7 => .int
  | 8 => .int
  | 9 => .array .int
  | 10 => .int
  | 11 => .boolean
  | 12 => .int
  | 13 => .int
  | 14 => .int
  | 15 => .int
  | 16 => .int
  | 17 => .int
  | 18 => .array .int
  | 19 => .int
  | 20 => .array .int
  | 21 => .array .int
  | 22 => .int
  | 23 => .array .boolean
  | 24 => .int
  | 25 => .int
  | 26 => .int
  | 27 => .array .int
  | 28 => .array .int
  | 29 => .array .int
  | 30 => .array .int
  | 31 => .array .int
  | _ => .boolean
abbrev wsX90 : List Cond := u_ws RX9 TX9 33
theorem nmX9 : ∀ a, a < 33 → ∀ b, b < 33 → a ≠ b → (TX9 a).2.1 ≠ (TX9 b).2.1 := by decide +kernel
theorem tyX9_ok : ∀ k, k < 33 → parseFieldDescriptor (TX9 k).2.2.1 = some (tyX9 k) := by decide +kernel
abbrev cX9_init : ByteArray := prog_11_method_1_code
def yX9_init : MethodName := ⟨RX9, "<init>", "()V"⟩
abbrev cX9_no : ByteArray := prog_11_method_2_code
def yX9_no : MethodName := ⟨RX9, "no", "(I)I"⟩
abbrev cX9_in : ByteArray := prog_11_method_3_code
def yX9_in : MethodName := ⟨RX9, "in", "(III)Z"⟩
abbrev cX9_has : ByteArray := prog_11_method_4_code
def yX9_has : MethodName := ⟨RX9, "has", "(II)Z"⟩
abbrev cX9_ones : ByteArray := prog_11_method_5_code
def yX9_ones : MethodName := ⟨RX9, "ones", "(I)I"⟩
abbrev cX9_isPoint : ByteArray := prog_11_method_6_code
def yX9_isPoint : MethodName := ⟨RX9, "isPoint", "(I)Z"⟩
abbrev cX9_isLine : ByteArray := prog_11_method_7_code
def yX9_isLine : MethodName := ⟨RX9, "isLine", "(I)Z"⟩
abbrev cX9_all : ByteArray := prog_11_method_8_code
def yX9_all : MethodName := ⟨RX9, "all", "()I"⟩
abbrev cX9_isNew : ByteArray := prog_11_method_9_code
def yX9_isNew : MethodName := ⟨RX9, "isNew", "()V"⟩
abbrev cX9_points : ByteArray := prog_11_method_10_code
def yX9_points : MethodName := ⟨RX9, "points", "(I)I"⟩
abbrev cX9_comes : ByteArray := prog_11_method_11_code
def yX9_comes : MethodName := ⟨RX9, "comes", "(III)V"⟩
abbrev cX9_line : ByteArray := prog_11_method_12_code
def yX9_line : MethodName := ⟨RX9, "line", "(III)I"⟩
abbrev cX9_way : ByteArray := prog_11_method_13_code
def yX9_way : MethodName := ⟨RX9, "way", "(II)I"⟩
abbrev cX9_cut : ByteArray := prog_11_method_14_code
def yX9_cut : MethodName := ⟨RX9, "cut", "(I)I"⟩
abbrev cX9_ends : ByteArray := prog_11_method_15_code
def yX9_ends : MethodName := ⟨RX9, "ends", "(II)I"⟩
abbrev cX9_isAt : ByteArray := prog_11_method_16_code
def yX9_isAt : MethodName := ⟨RX9, "isAt", "(II)Z"⟩
abbrev cX9_otherOf : ByteArray := prog_11_method_17_code
def yX9_otherOf : MethodName := ⟨RX9, "otherOf", "(II)I"⟩
abbrev cX9_leads : ByteArray := prog_11_method_18_code
def yX9_leads : MethodName := ⟨RX9, "leads", "(II)Z"⟩
abbrev cX9_degree : ByteArray := prog_11_method_19_code
def yX9_degree : MethodName := ⟨RX9, "degree", "(II)I"⟩
abbrev cX9_at : ByteArray := prog_11_method_20_code
def yX9_at : MethodName := ⟨RX9, "at", "(II)I"⟩
abbrev cX9_sidesFrom : ByteArray := prog_11_method_21_code
def yX9_sidesFrom : MethodName := ⟨RX9, "sidesFrom", "(II)Z"⟩
abbrev cX9_sides : ByteArray := prog_11_method_22_code
def yX9_sides : MethodName := ⟨RX9, "sides", "()I"⟩
abbrev cX9_metBy : ByteArray := prog_11_method_23_code
def yX9_metBy : MethodName := ⟨RX9, "metBy", "(II)I"⟩
abbrev cX9_pairingOf : ByteArray := prog_11_method_24_code
def yX9_pairingOf : MethodName := ⟨RX9, "pairingOf", "(I)I"⟩
abbrev cX9_pairing : ByteArray := prog_11_method_25_code
def yX9_pairing : MethodName := ⟨RX9, "pairing", "(II)I"⟩
abbrev cX9_needed : ByteArray := prog_11_method_26_code
def yX9_needed : MethodName := ⟨RX9, "needed", "()I"⟩
abbrev cX9_isKernel : ByteArray := prog_11_method_27_code
def yX9_isKernel : MethodName := ⟨RX9, "isKernel", "(I)Z"⟩
abbrev cX9_kernel : ByteArray := prog_11_method_28_code
def yX9_kernel : MethodName := ⟨RX9, "kernel", "(I)I"⟩
abbrev cX9_feed : ByteArray := prog_11_method_29_code
def yX9_feed : MethodName := ⟨RX9, "feed", "(JI)I"⟩
abbrev cX9_here : ByteArray := prog_11_method_30_code
def yX9_here : MethodName := ⟨RX9, "here", "(I)I"⟩
abbrev cX9_faultOf : ByteArray := prog_11_method_31_code
def yX9_faultOf : MethodName := ⟨RX9, "faultOf", "()I"⟩
abbrev cX9_network : ByteArray := prog_11_method_32_code
def yX9_network : MethodName := ⟨RX9, "network", "()I"⟩
abbrev cX9_isByLines : ByteArray := prog_11_method_33_code
def yX9_isByLines : MethodName := ⟨RX9, "isByLines", "()Z"⟩
abbrev cX9_isByWays : ByteArray := prog_11_method_34_code
def yX9_isByWays : MethodName := ⟨RX9, "isByWays", "()Z"⟩
abbrev cX9_isMove : ByteArray := prog_11_method_35_code
def yX9_isMove : MethodName := ⟨RX9, "isMove", "(III)Z"⟩
abbrev cX9_setBehind : ByteArray := prog_11_method_36_code
def yX9_setBehind : MethodName := ⟨RX9, "setBehind", "(III)I"⟩
abbrev cX9_movesAt : ByteArray := prog_11_method_37_code
def yX9_movesAt : MethodName := ⟨RX9, "movesAt", "(II)I"⟩
abbrev cX9_tables : ByteArray := prog_11_method_38_code
def yX9_tables : MethodName := ⟨RX9, "tables", "()V"⟩
abbrev cX9_worthAt : ByteArray := prog_11_method_39_code
def yX9_worthAt : MethodName := ⟨RX9, "worthAt", "(II)I"⟩
abbrev cX9_winsAt : ByteArray := prog_11_method_40_code
def yX9_winsAt : MethodName := ⟨RX9, "winsAt", "(II)Z"⟩
abbrev cX9_longAt : ByteArray := prog_11_method_41_code
def yX9_longAt : MethodName := ⟨RX9, "longAt", "(II)I"⟩
abbrev cX9_nimAt : ByteArray := prog_11_method_42_code
def yX9_nimAt : MethodName := ⟨RX9, "nimAt", "(II)I"⟩
abbrev cX9_setNow : ByteArray := prog_11_method_43_code
def yX9_setNow : MethodName := ⟨RX9, "setNow", "()I"⟩
abbrev cX9_movesNow : ByteArray := prog_11_method_44_code
def yX9_movesNow : MethodName := ⟨RX9, "movesNow", "()I"⟩
abbrev cX9_isOver : ByteArray := prog_11_method_45_code
def yX9_isOver : MethodName := ⟨RX9, "isOver", "()Z"⟩
abbrev cX9_winsBehind : ByteArray := prog_11_method_46_code
def yX9_winsBehind : MethodName := ⟨RX9, "winsBehind", "(I)Z"⟩
abbrev cX9_beginsAt : ByteArray := prog_11_method_47_code
def yX9_beginsAt : MethodName := ⟨RX9, "beginsAt", "(II)V"⟩
abbrev cX9_begin : ByteArray := prog_11_method_48_code
def yX9_begin : MethodName := ⟨RX9, "begin", "(II)I"⟩
abbrev cX9_goes : ByteArray := prog_11_method_49_code
def yX9_goes : MethodName := ⟨RX9, "goes", "(I)V"⟩
abbrev cX9_go : ByteArray := prog_11_method_50_code
def yX9_go : MethodName := ⟨RX9, "go", "(I)I"⟩
abbrev cX9_goesBack : ByteArray := prog_11_method_51_code
def yX9_goesBack : MethodName := ⟨RX9, "goesBack", "()V"⟩
abbrev cX9_back : ByteArray := prog_11_method_52_code
def yX9_back : MethodName := ⟨RX9, "back", "()I"⟩
abbrev cX9_mover : ByteArray := prog_11_method_53_code
def yX9_mover : MethodName := ⟨RX9, "mover", "()I"⟩
abbrev cX9_winner : ByteArray := prog_11_method_54_code
def yX9_winner : MethodName := ⟨RX9, "winner", "()I"⟩
abbrev cX9_game : ByteArray := prog_11_method_55_code
def yX9_game : MethodName := ⟨RX9, "game", "(I)I"⟩
abbrev cX9_moved : ByteArray := prog_11_method_56_code
def yX9_moved : MethodName := ⟨RX9, "moved", "(I)I"⟩
abbrev cX9_winning : ByteArray := prog_11_method_57_code
def yX9_winning : MethodName := ⟨RX9, "winning", "()I"⟩
abbrev cX9_moves : ByteArray := prog_11_method_58_code
def yX9_moves : MethodName := ⟨RX9, "moves", "(I)I"⟩
abbrev cX9_worth : ByteArray := prog_11_method_59_code
def yX9_worth : MethodName := ⟨RX9, "worth", "(I)I"⟩
abbrev cX9_reaches : ByteArray := prog_11_method_60_code
def yX9_reaches : MethodName := ⟨RX9, "reaches", "(II)I"⟩
abbrev cX9_reach : ByteArray := prog_11_method_61_code
def yX9_reach : MethodName := ⟨RX9, "reach", "()I"⟩
abbrev cX9_starts : ByteArray := prog_11_method_62_code
def yX9_starts : MethodName := ⟨RX9, "starts", "(I)I"⟩
abbrev cX9_isCode : ByteArray := prog_11_method_63_code
def yX9_isCode : MethodName := ⟨RX9, "isCode", "(I)Z"⟩
abbrev cX9_least : ByteArray := prog_11_method_64_code
def yX9_least : MethodName := ⟨RX9, "least", "(I)I"⟩
abbrev cX9_greatest : ByteArray := prog_11_method_65_code
def yX9_greatest : MethodName := ⟨RX9, "greatest", "(I)I"⟩
abbrev cX9_drawn : ByteArray := prog_11_method_66_code
def yX9_drawn : MethodName := ⟨RX9, "drawn", "(I)I"⟩
abbrev cX9_bestBy : ByteArray := prog_11_method_67_code
def yX9_bestBy : MethodName := ⟨RX9, "bestBy", "(IZ)I"⟩
abbrev cX9_paired : ByteArray := prog_11_method_68_code
def yX9_paired : MethodName := ⟨RX9, "paired", "(I)I"⟩
abbrev cX9_simple : ByteArray := prog_11_method_69_code
def yX9_simple : MethodName := ⟨RX9, "simple", "(I)I"⟩
abbrev cX9_planned : ByteArray := prog_11_method_70_code
def yX9_planned : MethodName := ⟨RX9, "planned", "(I)I"⟩
abbrev cX9_tells : ByteArray := prog_11_method_71_code
def yX9_tells : MethodName := ⟨RX9, "tells", "(I)I"⟩
abbrev cX9_plays : ByteArray := prog_11_method_72_code
def yX9_plays : MethodName := ⟨RX9, "plays", "(III)I"⟩
abbrev cX9_play : ByteArray := prog_11_method_73_code
def yX9_play : MethodName := ⟨RX9, "play", "(III)I"⟩
abbrev cX9_fight : ByteArray := prog_11_method_74_code
def yX9_fight : MethodName := ⟨RX9, "fight", "(III)I"⟩
abbrev cX9_grows : ByteArray := prog_11_method_75_code
def yX9_grows : MethodName := ⟨RX9, "grows", "(IIZII)V"⟩
abbrev cX9_isGrown : ByteArray := prog_11_method_76_code
def yX9_isGrown : MethodName := ⟨RX9, "isGrown", "()Z"⟩
abbrev cX9_tree : ByteArray := prog_11_method_77_code
def yX9_tree : MethodName := ⟨RX9, "tree", "(I)I"⟩
abbrev cX9_node : ByteArray := prog_11_method_78_code
def yX9_node : MethodName := ⟨RX9, "node", "(I)I"⟩
abbrev cX9_isSheet : ByteArray := prog_11_method_79_code
def yX9_isSheet : MethodName := ⟨RX9, "isSheet", "(I)Z"⟩
abbrev cX9_sheet : ByteArray := prog_11_method_80_code
def yX9_sheet : MethodName := ⟨RX9, "sheet", "(III)I"⟩
abbrev cX9_wrongCell : ByteArray := prog_11_method_81_code
def yX9_wrongCell : MethodName := ⟨RX9, "wrongCell", "(II)I"⟩
abbrev cX9_lays : ByteArray := prog_11_method_82_code
def yX9_lays : MethodName := ⟨RX9, "lays", "(III)V"⟩
abbrev cX9_put : ByteArray := prog_11_method_83_code
def yX9_put : MethodName := ⟨RX9, "put", "(III)I"⟩
abbrev cX9_number : ByteArray := prog_11_method_84_code
def yX9_number : MethodName := ⟨RX9, "number", "(II)I"⟩
abbrev cX9_copy : ByteArray := prog_11_method_85_code
def yX9_copy : MethodName := ⟨RX9, "copy", "(IIIII)I"⟩
abbrev cX9_degrees : ByteArray := prog_11_method_86_code
def yX9_degrees : MethodName := ⟨RX9, "degrees", "(II)I"⟩
abbrev cX9_walks : ByteArray := prog_11_method_87_code
def yX9_walks : MethodName := ⟨RX9, "walks", "(II)I"⟩
abbrev cX9_seed : ByteArray := prog_11_method_88_code
def yX9_seed : MethodName := ⟨RX9, "seed", "(I)I"⟩
abbrev cX9_image : ByteArray := prog_11_method_89_code
def yX9_image : MethodName := ⟨RX9, "image", "()I"⟩
abbrev cX9_restore : ByteArray := prog_11_method_90_code
def yX9_restore : MethodName := ⟨RX9, "restore", "()I"⟩
abbrev cX9_sheetsThere : ByteArray := prog_11_method_91_code
def yX9_sheetsThere : MethodName := ⟨RX9, "sheetsThere", "()I"⟩
abbrev cX9_count : ByteArray := prog_11_method_92_code
def yX9_count : MethodName := ⟨RX9, "count", "(I)I"⟩
abbrev cX9_told : ByteArray := prog_11_method_93_code
def yX9_told : MethodName := ⟨RX9, "told", "(I)I"⟩
def RJ6 : String := "java/lang/Integer"
def TJ6 : u_T := fun k => match k with
  | _ => ("", "", "", false)
def tyJ6 : Nat → FieldType := fun k => match k with
  | _ => .int
abbrev wsJ60 : List Cond := u_ws RJ6 TJ6 0
theorem nmJ6 : ∀ a, a < 0 → ∀ b, b < 0 → a ≠ b → (TJ6 a).2.1 ≠ (TJ6 b).2.1 := by decide +kernel
theorem tyJ6_ok : ∀ k, k < 0 → parseFieldDescriptor (TJ6 k).2.2.1 = some (tyJ6 k) := by decide +kernel
abbrev cJ6_lowestOneBit_0f7a4 : ByteArray := prog_12_method_46_code
def yJ6_lowestOneBit_0f7a4 : MethodName := ⟨RJ6, "lowestOneBit", "(I)I"⟩
abbrev cJ6_numberOfLeadingZeros_0f7a4 : ByteArray := prog_12_method_47_code
def yJ6_numberOfLeadingZeros_0f7a4 : MethodName := ⟨RJ6, "numberOfLeadingZeros", "(I)I"⟩
abbrev cJ6_numberOfTrailingZeros_0f7a4 : ByteArray := prog_12_method_48_code
def yJ6_numberOfTrailingZeros_0f7a4 : MethodName := ⟨RJ6, "numberOfTrailingZeros", "(I)I"⟩
abbrev cJ6_bitCount_0f7a4 : ByteArray := prog_12_method_49_code
def yJ6_bitCount_0f7a4 : MethodName := ⟨RJ6, "bitCount", "(I)I"⟩
def RJ9 : String := "java/lang/Math"
def TJ9 : u_T := fun k => match k with
  | _ => ("", "", "", false)
def tyJ9 : Nat → FieldType := fun k => match k with
  | _ => .int
abbrev wsJ90 : List Cond := u_ws RJ9 TJ9 0
theorem nmJ9 : ∀ a, a < 0 → ∀ b, b < 0 → a ≠ b → (TJ9 a).2.1 ≠ (TJ9 b).2.1 := by decide +kernel
theorem tyJ9_ok : ∀ k, k < 0 → parseFieldDescriptor (TJ9 k).2.2.1 = some (tyJ9 k) := by decide +kernel
abbrev cJ9_max_7cf53 : ByteArray := prog_13_method_65_code
def yJ9_max_7cf53 : MethodName := ⟨RJ9, "max", "(II)I"⟩
abbrev cJ9_min_7cf53 : ByteArray := prog_13_method_69_code
def yJ9_min_7cf53 : MethodName := ⟨RJ9, "min", "(II)I"⟩
def RJ10 : String := "java/lang/System"
def TJ10 : u_T := fun k => match k with
  | _ => ("", "", "", false)
def tyJ10 : Nat → FieldType := fun k => match k with
  | _ => .int
abbrev wsJ100 : List Cond := u_ws RJ10 TJ10 0
theorem nmJ10 : ∀ a, a < 0 → ∀ b, b < 0 → a ≠ b → (TJ10 a).2.1 ≠ (TJ10 b).2.1 := by decide +kernel
theorem tyJ10_ok : ∀ k, k < 0 → parseFieldDescriptor (TJ10 k).2.2.1 = some (tyJ10 k) := by decide +kernel
def RJ7 : String := "java/util/Arrays"
def TJ7 : u_T := fun k => match k with
  | _ => ("", "", "", false)
def tyJ7 : Nat → FieldType := fun k => match k with
  | _ => .int
abbrev wsJ70 : List Cond := u_ws RJ7 TJ7 0
theorem nmJ7 : ∀ a, a < 0 → ∀ b, b < 0 → a ≠ b → (TJ7 a).2.1 ≠ (TJ7 b).2.1 := by decide +kernel
theorem tyJ7_ok : ∀ k, k < 0 → parseFieldDescriptor (TJ7 k).2.2.1 = some (tyJ7 k) := by decide +kernel
abbrev cJ7_fill_53178 : ByteArray := prog_15_method_103_code
def yJ7_fill_53178 : MethodName := ⟨RJ7, "fill", "([II)V"⟩
def RL : String := "MarkerWalksLaw"
abbrev cL_law : ByteArray := code
def yL_law : MethodName := ⟨RL, "law", "([I)Z"⟩
abbrev vwCl : List vw_C := [(RX0, TX0, 5), (RX1, TX1, 4), (RX2, TX2, 10), (RX3, TX3, 3), (RX4, TX4, 3), (RX6, TX6, 2), (RX7, TX7, 7), (RX8, TX8, 11), (RX9, TX9, 33)]
end
section
theorem dX0_init_0 : decode cX0_init 0 = .ok (.aload_n 0, 1) := by decide +kernel
theorem dX0_init_1 : decode cX0_init 1 = .ok (.invokespecial 3, 3) := by decide +kernel
theorem dX0_init_4 : decode cX0_init 4 = .ok (.aload_n 0, 1) := by decide +kernel
theorem dX0_init_5 : decode cX0_init 5 = .ok (.bipush 12, 2) := by decide +kernel
theorem dX0_init_7 : decode cX0_init 7 = .ok (.newarray .int, 2) := by decide +kernel
theorem dX0_init_9 : decode cX0_init 9 = .ok (.putfield 9, 3) := by decide +kernel
theorem dX0_init_12 : decode cX0_init 12 = .ok (.aload_n 0, 1) := by decide +kernel
theorem dX0_init_13 : decode cX0_init 13 = .ok (.bipush 13, 2) := by decide +kernel
theorem dX0_init_15 : decode cX0_init 15 = .ok (.newarray .int, 2) := by decide +kernel
theorem dX0_init_17 : decode cX0_init 17 = .ok (.putfield 15, 3) := by decide +kernel
theorem dX0_init_20 : decode cX0_init 20 = .ok (.return_, 1) := by decide +kernel
theorem dX0_start_0 : decode cX0_start 0 = .ok (.aload_n 0, 1) := by decide +kernel
theorem dX0_start_1 : decode cX0_start 1 = .ok (.iconst 1, 1) := by decide +kernel
theorem dX0_start_2 : decode cX0_start 2 = .ok (.putfield 18, 3) := by decide +kernel
theorem dX0_start_5 : decode cX0_start 5 = .ok (.aload_n 0, 1) := by decide +kernel
theorem dX0_start_6 : decode cX0_start 6 = .ok (.iload_n 1, 1) := by decide +kernel
theorem dX0_start_7 : decode cX0_start 7 = .ok (.putfield 22, 3) := by decide +kernel
theorem dX0_start_10 : decode cX0_start 10 = .ok (.aload_n 0, 1) := by decide +kernel
theorem dX0_start_11 : decode cX0_start 11 = .ok (.iconst 0, 1) := by decide +kernel
theorem dX0_start_12 : decode cX0_start 12 = .ok (.putfield 26, 3) := by decide +kernel
theorem dX0_start_15 : decode cX0_start 15 = .ok (.aload_n 0, 1) := by decide +kernel
theorem dX0_start_16 : decode cX0_start 16 = .ok (.getfield 15, 3) := by decide +kernel
theorem dX0_start_19 : decode cX0_start 19 = .ok (.iconst 0, 1) := by decide +kernel
theorem dX0_start_20 : decode cX0_start 20 = .ok (.iload_n 2, 1) := by decide +kernel
theorem dX0_start_21 : decode cX0_start 21 = .ok (.iastore, 1) := by decide +kernel
theorem dX0_start_22 : decode cX0_start 22 = .ok (.return_, 1) := by decide +kernel
theorem dX0_stand_0 : decode cX0_stand 0 = .ok (.aload_n 0, 1) := by decide +kernel
theorem dX0_stand_1 : decode cX0_stand 1 = .ok (.getfield 15, 3) := by decide +kernel
theorem dX0_stand_4 : decode cX0_stand 4 = .ok (.aload_n 0, 1) := by decide +kernel
theorem dX0_stand_5 : decode cX0_stand 5 = .ok (.getfield 26, 3) := by decide +kernel
theorem dX0_stand_8 : decode cX0_stand 8 = .ok (.iaload, 1) := by decide +kernel
theorem dX0_stand_9 : decode cX0_stand 9 = .ok (.ireturn, 1) := by decide +kernel
theorem dX0_advance_0 : decode cX0_advance 0 = .ok (.aload_n 0, 1) := by decide +kernel
theorem dX0_advance_1 : decode cX0_advance 1 = .ok (.getfield 26, 3) := by decide +kernel
theorem dX0_advance_4 : decode cX0_advance 4 = .ok (.bipush 12, 2) := by decide +kernel
theorem dX0_advance_6 : decode cX0_advance 6 = .ok (.if_icmp .ge 33, 3) := by decide +kernel
theorem dX0_advance_9 : decode cX0_advance 9 = .ok (.aload_n 0, 1) := by decide +kernel
theorem dX0_advance_10 : decode cX0_advance 10 = .ok (.getfield 9, 3) := by decide +kernel
theorem dX0_advance_13 : decode cX0_advance 13 = .ok (.aload_n 0, 1) := by decide +kernel
theorem dX0_advance_14 : decode cX0_advance 14 = .ok (.getfield 26, 3) := by decide +kernel
theorem dX0_advance_17 : decode cX0_advance 17 = .ok (.iload_n 1, 1) := by decide +kernel
theorem dX0_advance_18 : decode cX0_advance 18 = .ok (.iastore, 1) := by decide +kernel
theorem dX0_advance_19 : decode cX0_advance 19 = .ok (.aload_n 0, 1) := by decide +kernel
theorem dX0_advance_20 : decode cX0_advance 20 = .ok (.dup, 1) := by decide +kernel
theorem dX0_advance_21 : decode cX0_advance 21 = .ok (.getfield 26, 3) := by decide +kernel
theorem dX0_advance_24 : decode cX0_advance 24 = .ok (.iconst 1, 1) := by decide +kernel
theorem dX0_advance_25 : decode cX0_advance 25 = .ok (.iadd, 1) := by decide +kernel
theorem dX0_advance_26 : decode cX0_advance 26 = .ok (.putfield 26, 3) := by decide +kernel
theorem dX0_advance_29 : decode cX0_advance 29 = .ok (.aload_n 0, 1) := by decide +kernel
theorem dX0_advance_30 : decode cX0_advance 30 = .ok (.getfield 15, 3) := by decide +kernel
theorem dX0_advance_33 : decode cX0_advance 33 = .ok (.aload_n 0, 1) := by decide +kernel
theorem dX0_advance_34 : decode cX0_advance 34 = .ok (.getfield 26, 3) := by decide +kernel
theorem dX0_advance_37 : decode cX0_advance 37 = .ok (.iload_n 2, 1) := by decide +kernel
theorem dX0_advance_38 : decode cX0_advance 38 = .ok (.iastore, 1) := by decide +kernel
theorem dX0_advance_39 : decode cX0_advance 39 = .ok (.return_, 1) := by decide +kernel
theorem dX1_init_0 : decode cX1_init 0 = .ok (.aload_n 0, 1) := by decide +kernel
theorem dX1_init_1 : decode cX1_init 1 = .ok (.invokespecial 3, 3) := by decide +kernel
theorem dX1_init_4 : decode cX1_init 4 = .ok (.aload_n 0, 1) := by decide +kernel
theorem dX1_init_5 : decode cX1_init 5 = .ok (.sipush 8192, 3) := by decide +kernel
theorem dX1_init_8 : decode cX1_init 8 = .ok (.newarray .int, 2) := by decide +kernel
theorem dX1_init_10 : decode cX1_init 10 = .ok (.putfield 11, 3) := by decide +kernel
theorem dX1_init_13 : decode cX1_init 13 = .ok (.aload_n 0, 1) := by decide +kernel
theorem dX1_init_14 : decode cX1_init 14 = .ok (.aload_n 1, 1) := by decide +kernel
theorem dX1_init_15 : decode cX1_init 15 = .ok (.putfield 17, 3) := by decide +kernel
theorem dX1_init_18 : decode cX1_init 18 = .ok (.return_, 1) := by decide +kernel
theorem dX1_turnTo_0 : decode cX1_turnTo 0 = .ok (.aload_n 0, 1) := by decide +kernel
theorem dX1_turnTo_1 : decode cX1_turnTo 1 = .ok (.iload_n 1, 1) := by decide +kernel
theorem dX1_turnTo_2 : decode cX1_turnTo 2 = .ok (.putfield 21, 3) := by decide +kernel
theorem dX1_turnTo_5 : decode cX1_turnTo 5 = .ok (.aload_n 0, 1) := by decide +kernel
theorem dX1_turnTo_6 : decode cX1_turnTo 6 = .ok (.dup, 1) := by decide +kernel
theorem dX1_turnTo_7 : decode cX1_turnTo 7 = .ok (.getfield 25, 3) := by decide +kernel
theorem dX1_turnTo_10 : decode cX1_turnTo 10 = .ok (.iconst 1, 1) := by decide +kernel
theorem dX1_turnTo_11 : decode cX1_turnTo 11 = .ok (.iadd, 1) := by decide +kernel
theorem dX1_turnTo_12 : decode cX1_turnTo 12 = .ok (.putfield 25, 3) := by decide +kernel
theorem dX1_turnTo_15 : decode cX1_turnTo 15 = .ok (.aload_n 0, 1) := by decide +kernel
theorem dX1_turnTo_16 : decode cX1_turnTo 16 = .ok (.getfield 25, 3) := by decide +kernel
theorem dX1_turnTo_19 : decode cX1_turnTo 19 = .ok (.ldc 28, 2) := by decide +kernel
theorem dX1_turnTo_21 : decode cX1_turnTo 21 = .ok (.if_icmp .lt 16, 3) := by decide +kernel
theorem dX1_turnTo_24 : decode cX1_turnTo 24 = .ok (.aload_n 0, 1) := by decide +kernel
theorem dX1_turnTo_25 : decode cX1_turnTo 25 = .ok (.getfield 11, 3) := by decide +kernel
theorem dX1_turnTo_28 : decode cX1_turnTo 28 = .ok (.iconst 0, 1) := by decide +kernel
theorem dX1_turnTo_29 : decode cX1_turnTo 29 = .ok (.invokestatic 29, 3) := by decide +kernel
theorem dX1_turnTo_32 : decode cX1_turnTo 32 = .ok (.aload_n 0, 1) := by decide +kernel
theorem dX1_turnTo_33 : decode cX1_turnTo 33 = .ok (.iconst 1, 1) := by decide +kernel
theorem dX1_turnTo_34 : decode cX1_turnTo 34 = .ok (.putfield 25, 3) := by decide +kernel
theorem dX1_turnTo_37 : decode cX1_turnTo 37 = .ok (.return_, 1) := by decide +kernel
theorem dX1_movesFrom_0 : decode cX1_movesFrom 0 = .ok (.iload_n 1, 1) := by decide +kernel
theorem dX1_movesFrom_1 : decode cX1_movesFrom 1 = .ok (.invokestatic 35, 3) := by decide +kernel
theorem dX1_movesFrom_4 : decode cX1_movesFrom 4 = .ok (.istore_n 2, 1) := by decide +kernel
theorem dX1_movesFrom_5 : decode cX1_movesFrom 5 = .ok (.aload_n 0, 1) := by decide +kernel
theorem dX1_movesFrom_6 : decode cX1_movesFrom 6 = .ok (.getfield 21, 3) := by decide +kernel
theorem dX1_movesFrom_9 : decode cX1_movesFrom 9 = .ok (.iconst 2, 1) := by decide +kernel
theorem dX1_movesFrom_10 : decode cX1_movesFrom 10 = .ok (.if_icmp .eq 11, 3) := by decide +kernel
theorem dX1_movesFrom_13 : decode cX1_movesFrom 13 = .ok (.aload_n 0, 1) := by decide +kernel
theorem dX1_movesFrom_14 : decode cX1_movesFrom 14 = .ok (.getfield 21, 3) := by decide +kernel
theorem dX1_movesFrom_17 : decode cX1_movesFrom 17 = .ok (.iconst 3, 1) := by decide +kernel
theorem dX1_movesFrom_18 : decode cX1_movesFrom 18 = .ok (.if_icmp .ne 7, 3) := by decide +kernel
theorem dX1_movesFrom_21 : decode cX1_movesFrom 21 = .ok (.iconst 1, 1) := by decide +kernel
theorem dX1_movesFrom_22 : decode cX1_movesFrom 22 = .ok (.goto 4, 3) := by decide +kernel
theorem dX1_movesFrom_25 : decode cX1_movesFrom 25 = .ok (.iconst 0, 1) := by decide +kernel
theorem dX1_movesFrom_26 : decode cX1_movesFrom 26 = .ok (.istore_n 3, 1) := by decide +kernel
theorem dX1_movesFrom_27 : decode cX1_movesFrom 27 = .ok (.iload_n 3, 1) := by decide +kernel
theorem dX1_movesFrom_28 : decode cX1_movesFrom 28 = .ok (.ifCond .eq 15, 3) := by decide +kernel
theorem dX1_movesFrom_31 : decode cX1_movesFrom 31 = .ok (.aload_n 0, 1) := by decide +kernel
theorem dX1_movesFrom_32 : decode cX1_movesFrom 32 = .ok (.getfield 17, 3) := by decide +kernel
theorem dX1_movesFrom_35 : decode cX1_movesFrom 35 = .ok (.getfield 39, 3) := by decide +kernel
theorem dX1_movesFrom_38 : decode cX1_movesFrom 38 = .ok (.iload_n 2, 1) := by decide +kernel
theorem dX1_movesFrom_39 : decode cX1_movesFrom 39 = .ok (.iaload, 1) := by decide +kernel
theorem dX1_movesFrom_40 : decode cX1_movesFrom 40 = .ok (.goto 12, 3) := by decide +kernel
theorem dX1_movesFrom_43 : decode cX1_movesFrom 43 = .ok (.aload_n 0, 1) := by decide +kernel
theorem dX1_movesFrom_44 : decode cX1_movesFrom 44 = .ok (.getfield 17, 3) := by decide +kernel
theorem dX1_movesFrom_47 : decode cX1_movesFrom 47 = .ok (.getfield 44, 3) := by decide +kernel
theorem dX1_movesFrom_50 : decode cX1_movesFrom 50 = .ok (.iload_n 2, 1) := by decide +kernel
theorem dX1_movesFrom_51 : decode cX1_movesFrom 51 = .ok (.iaload, 1) := by decide +kernel
theorem dX1_movesFrom_52 : decode cX1_movesFrom 52 = .ok (.istore 4, 2) := by decide +kernel
theorem dX1_movesFrom_54 : decode cX1_movesFrom 54 = .ok (.aload_n 0, 1) := by decide +kernel
theorem dX1_movesFrom_55 : decode cX1_movesFrom 55 = .ok (.invokevirtual 47, 3) := by decide +kernel
theorem dX1_movesFrom_58 : decode cX1_movesFrom 58 = .ok (.ifCond .eq 13, 3) := by decide +kernel
theorem dX1_movesFrom_61 : decode cX1_movesFrom 61 = .ok (.iload 4, 2) := by decide +kernel
theorem dX1_movesFrom_63 : decode cX1_movesFrom 63 = .ok (.iload_n 1, 1) := by decide +kernel
theorem dX1_movesFrom_64 : decode cX1_movesFrom 64 = .ok (.invokestatic 51, 3) := by decide +kernel
theorem dX1_movesFrom_67 : decode cX1_movesFrom 67 = .ok (.iconst (-1), 1) := by decide +kernel
theorem dX1_movesFrom_68 : decode cX1_movesFrom 68 = .ok (.ixor, 1) := by decide +kernel
theorem dX1_movesFrom_69 : decode cX1_movesFrom 69 = .ok (.iand, 1) := by decide +kernel
theorem dX1_movesFrom_70 : decode cX1_movesFrom 70 = .ok (.ireturn, 1) := by decide +kernel
theorem dX1_movesFrom_71 : decode cX1_movesFrom 71 = .ok (.iload_n 1, 1) := by decide +kernel
theorem dX1_movesFrom_72 : decode cX1_movesFrom 72 = .ok (.invokestatic 54, 3) := by decide +kernel
theorem dX1_movesFrom_75 : decode cX1_movesFrom 75 = .ok (.istore 5, 2) := by decide +kernel
theorem dX1_movesFrom_77 : decode cX1_movesFrom 77 = .ok (.iconst 0, 1) := by decide +kernel
theorem dX1_movesFrom_78 : decode cX1_movesFrom 78 = .ok (.istore 6, 2) := by decide +kernel
theorem dX1_movesFrom_80 : decode cX1_movesFrom 80 = .ok (.iconst 0, 1) := by decide +kernel
theorem dX1_movesFrom_81 : decode cX1_movesFrom 81 = .ok (.istore 7, 2) := by decide +kernel
theorem dX1_movesFrom_83 : decode cX1_movesFrom 83 = .ok (.iload 7, 2) := by decide +kernel
theorem dX1_movesFrom_85 : decode cX1_movesFrom 85 = .ok (.aload_n 0, 1) := by decide +kernel
theorem dX1_movesFrom_86 : decode cX1_movesFrom 86 = .ok (.getfield 17, 3) := by decide +kernel
theorem dX1_movesFrom_89 : decode cX1_movesFrom 89 = .ok (.getfield 57, 3) := by decide +kernel
theorem dX1_movesFrom_92 : decode cX1_movesFrom 92 = .ok (.if_icmp .ge 46, 3) := by decide +kernel
theorem dX1_movesFrom_95 : decode cX1_movesFrom 95 = .ok (.iload 4, 2) := by decide +kernel
theorem dX1_movesFrom_97 : decode cX1_movesFrom 97 = .ok (.iload 7, 2) := by decide +kernel
theorem dX1_movesFrom_99 : decode cX1_movesFrom 99 = .ok (.ishr, 1) := by decide +kernel
theorem dX1_movesFrom_100 : decode cX1_movesFrom 100 = .ok (.iconst 1, 1) := by decide +kernel
theorem dX1_movesFrom_101 : decode cX1_movesFrom 101 = .ok (.iand, 1) := by decide +kernel
theorem dX1_movesFrom_102 : decode cX1_movesFrom 102 = .ok (.ifCond .eq 30, 3) := by decide +kernel
theorem dX1_movesFrom_105 : decode cX1_movesFrom 105 = .ok (.iload 5, 2) := by decide +kernel
theorem dX1_movesFrom_107 : decode cX1_movesFrom 107 = .ok (.aload_n 0, 1) := by decide +kernel
theorem dX1_movesFrom_108 : decode cX1_movesFrom 108 = .ok (.getfield 17, 3) := by decide +kernel
theorem dX1_movesFrom_111 : decode cX1_movesFrom 111 = .ok (.iload 7, 2) := by decide +kernel
theorem dX1_movesFrom_113 : decode cX1_movesFrom 113 = .ok (.iload_n 2, 1) := by decide +kernel
theorem dX1_movesFrom_114 : decode cX1_movesFrom 114 = .ok (.invokevirtual 60, 3) := by decide +kernel
theorem dX1_movesFrom_117 : decode cX1_movesFrom 117 = .ok (.ishr, 1) := by decide +kernel
theorem dX1_movesFrom_118 : decode cX1_movesFrom 118 = .ok (.iconst 1, 1) := by decide +kernel
theorem dX1_movesFrom_119 : decode cX1_movesFrom 119 = .ok (.iand, 1) := by decide +kernel
theorem dX1_movesFrom_120 : decode cX1_movesFrom 120 = .ok (.ifCond .ne 12, 3) := by decide +kernel
theorem dX1_movesFrom_123 : decode cX1_movesFrom 123 = .ok (.iload 6, 2) := by decide +kernel
theorem dX1_movesFrom_125 : decode cX1_movesFrom 125 = .ok (.iconst 1, 1) := by decide +kernel
theorem dX1_movesFrom_126 : decode cX1_movesFrom 126 = .ok (.iload 7, 2) := by decide +kernel
theorem dX1_movesFrom_128 : decode cX1_movesFrom 128 = .ok (.ishl, 1) := by decide +kernel
theorem dX1_movesFrom_129 : decode cX1_movesFrom 129 = .ok (.ior, 1) := by decide +kernel
theorem dX1_movesFrom_130 : decode cX1_movesFrom 130 = .ok (.istore 6, 2) := by decide +kernel
theorem dX1_movesFrom_132 : decode cX1_movesFrom 132 = .ok (.iinc 7 1, 3) := by decide +kernel
theorem dX1_movesFrom_135 : decode cX1_movesFrom 135 = .ok (.goto (-52), 3) := by decide +kernel
theorem dX1_movesFrom_138 : decode cX1_movesFrom 138 = .ok (.iload 6, 2) := by decide +kernel
theorem dX1_movesFrom_140 : decode cX1_movesFrom 140 = .ok (.ireturn, 1) := by decide +kernel
theorem dX1_overLines_0 : decode cX1_overLines 0 = .ok (.aload_n 0, 1) := by decide +kernel
theorem dX1_overLines_1 : decode cX1_overLines 1 = .ok (.getfield 21, 3) := by decide +kernel
theorem dX1_overLines_4 : decode cX1_overLines 4 = .ok (.iconst 1, 1) := by decide +kernel
theorem dX1_overLines_5 : decode cX1_overLines 5 = .ok (.if_icmp .eq 11, 3) := by decide +kernel
theorem dX1_overLines_8 : decode cX1_overLines 8 = .ok (.aload_n 0, 1) := by decide +kernel
theorem dX1_overLines_9 : decode cX1_overLines 9 = .ok (.getfield 21, 3) := by decide +kernel
theorem dX1_overLines_12 : decode cX1_overLines 12 = .ok (.iconst 3, 1) := by decide +kernel
theorem dX1_overLines_13 : decode cX1_overLines 13 = .ok (.if_icmp .ne 7, 3) := by decide +kernel
theorem dX1_overLines_16 : decode cX1_overLines 16 = .ok (.iconst 1, 1) := by decide +kernel
theorem dX1_overLines_17 : decode cX1_overLines 17 = .ok (.goto 4, 3) := by decide +kernel
theorem dX1_overLines_20 : decode cX1_overLines 20 = .ok (.iconst 0, 1) := by decide +kernel
theorem dX1_overLines_21 : decode cX1_overLines 21 = .ok (.ireturn, 1) := by decide +kernel
theorem dX1_behind_0 : decode cX1_behind 0 = .ok (.aload_n 0, 1) := by decide +kernel
theorem dX1_behind_1 : decode cX1_behind 1 = .ok (.getfield 17, 3) := by decide +kernel
theorem dX1_behind_4 : decode cX1_behind 4 = .ok (.iload_n 2, 1) := by decide +kernel
theorem dX1_behind_5 : decode cX1_behind 5 = .ok (.invokevirtual 64, 3) := by decide +kernel
theorem dX1_behind_8 : decode cX1_behind 8 = .ok (.ifCond .eq 23, 3) := by decide +kernel
theorem dX1_behind_11 : decode cX1_behind 11 = .ok (.iload_n 1, 1) := by decide +kernel
theorem dX1_behind_12 : decode cX1_behind 12 = .ok (.iload_n 2, 1) := by decide +kernel
theorem dX1_behind_13 : decode cX1_behind 13 = .ok (.aload_n 0, 1) := by decide +kernel
theorem dX1_behind_14 : decode cX1_behind 14 = .ok (.getfield 17, 3) := by decide +kernel
theorem dX1_behind_17 : decode cX1_behind 17 = .ok (.iload_n 2, 1) := by decide +kernel
theorem dX1_behind_18 : decode cX1_behind 18 = .ok (.iload_n 1, 1) := by decide +kernel
theorem dX1_behind_19 : decode cX1_behind 19 = .ok (.invokestatic 35, 3) := by decide +kernel
theorem dX1_behind_22 : decode cX1_behind 22 = .ok (.invokevirtual 60, 3) := by decide +kernel
theorem dX1_behind_25 : decode cX1_behind 25 = .ok (.invokestatic 68, 3) := by decide +kernel
theorem dX1_behind_28 : decode cX1_behind 28 = .ok (.goto 4, 3) := by decide +kernel
theorem dX1_behind_31 : decode cX1_behind 31 = .ok (.iload_n 1, 1) := by decide +kernel
theorem dX1_behind_32 : decode cX1_behind 32 = .ok (.ireturn, 1) := by decide +kernel
theorem dX1_wins_0 : decode cX1_wins 0 = .ok (.aload_n 0, 1) := by decide +kernel
theorem dX1_wins_1 : decode cX1_wins 1 = .ok (.iload_n 1, 1) := by decide +kernel
theorem dX1_wins_2 : decode cX1_wins 2 = .ok (.bipush 12, 2) := by decide +kernel
theorem dX1_wins_4 : decode cX1_wins 4 = .ok (.invokevirtual 72, 3) := by decide +kernel
theorem dX1_wins_7 : decode cX1_wins 7 = .ok (.invokestatic 75, 3) := by decide +kernel
theorem dX1_wins_10 : decode cX1_wins 10 = .ok (.ireturn, 1) := by decide +kernel
theorem dX1_winner_0 : decode cX1_winner 0 = .ok (.aload_n 0, 1) := by decide +kernel
theorem dX1_winner_1 : decode cX1_winner 1 = .ok (.iload_n 1, 1) := by decide +kernel
theorem dX1_winner_2 : decode cX1_winner 2 = .ok (.invokevirtual 78, 3) := by decide +kernel
theorem dX1_winner_5 : decode cX1_winner 5 = .ok (.ifCond .eq 7, 3) := by decide +kernel
theorem dX1_winner_8 : decode cX1_winner 8 = .ok (.iload_n 2, 1) := by decide +kernel
theorem dX1_winner_9 : decode cX1_winner 9 = .ok (.goto 6, 3) := by decide +kernel
theorem dX1_winner_12 : decode cX1_winner 12 = .ok (.iconst 1, 1) := by decide +kernel
theorem dX1_winner_13 : decode cX1_winner 13 = .ok (.iload_n 2, 1) := by decide +kernel
theorem dX1_winner_14 : decode cX1_winner 14 = .ok (.isub, 1) := by decide +kernel
theorem dX1_winner_15 : decode cX1_winner 15 = .ok (.ireturn, 1) := by decide +kernel
theorem dX1_lengthFrom_0 : decode cX1_lengthFrom 0 = .ok (.aload_n 0, 1) := by decide +kernel
theorem dX1_lengthFrom_1 : decode cX1_lengthFrom 1 = .ok (.iload_n 1, 1) := by decide +kernel
theorem dX1_lengthFrom_2 : decode cX1_lengthFrom 2 = .ok (.bipush 12, 2) := by decide +kernel
theorem dX1_lengthFrom_4 : decode cX1_lengthFrom 4 = .ok (.invokevirtual 72, 3) := by decide +kernel
theorem dX1_lengthFrom_7 : decode cX1_lengthFrom 7 = .ok (.invokestatic 81, 3) := by decide +kernel
theorem dX1_lengthFrom_10 : decode cX1_lengthFrom 10 = .ok (.ireturn, 1) := by decide +kernel
theorem dX1_nimFrom_0 : decode cX1_nimFrom 0 = .ok (.aload_n 0, 1) := by decide +kernel
theorem dX1_nimFrom_1 : decode cX1_nimFrom 1 = .ok (.iload_n 1, 1) := by decide +kernel
theorem dX1_nimFrom_2 : decode cX1_nimFrom 2 = .ok (.bipush 12, 2) := by decide +kernel
theorem dX1_nimFrom_4 : decode cX1_nimFrom 4 = .ok (.invokevirtual 72, 3) := by decide +kernel
theorem dX1_nimFrom_7 : decode cX1_nimFrom 7 = .ok (.invokestatic 84, 3) := by decide +kernel
theorem dX1_nimFrom_10 : decode cX1_nimFrom 10 = .ok (.ireturn, 1) := by decide +kernel
theorem dX1_winningFrom_0 : decode cX1_winningFrom 0 = .ok (.aload_n 0, 1) := by decide +kernel
theorem dX1_winningFrom_1 : decode cX1_winningFrom 1 = .ok (.iload_n 1, 1) := by decide +kernel
theorem dX1_winningFrom_2 : decode cX1_winningFrom 2 = .ok (.invokevirtual 87, 3) := by decide +kernel
theorem dX1_winningFrom_5 : decode cX1_winningFrom 5 = .ok (.istore_n 2, 1) := by decide +kernel
theorem dX1_winningFrom_6 : decode cX1_winningFrom 6 = .ok (.iconst 0, 1) := by decide +kernel
theorem dX1_winningFrom_7 : decode cX1_winningFrom 7 = .ok (.istore_n 3, 1) := by decide +kernel
theorem dX1_winningFrom_8 : decode cX1_winningFrom 8 = .ok (.iconst 0, 1) := by decide +kernel
theorem dX1_winningFrom_9 : decode cX1_winningFrom 9 = .ok (.istore 4, 2) := by decide +kernel
theorem dX1_winningFrom_11 : decode cX1_winningFrom 11 = .ok (.iload 4, 2) := by decide +kernel
theorem dX1_winningFrom_13 : decode cX1_winningFrom 13 = .ok (.aload_n 0, 1) := by decide +kernel
theorem dX1_winningFrom_14 : decode cX1_winningFrom 14 = .ok (.getfield 17, 3) := by decide +kernel
theorem dX1_winningFrom_17 : decode cX1_winningFrom 17 = .ok (.getfield 57, 3) := by decide +kernel
theorem dX1_winningFrom_20 : decode cX1_winningFrom 20 = .ok (.if_icmp .ge 44, 3) := by decide +kernel
theorem dX1_winningFrom_23 : decode cX1_winningFrom 23 = .ok (.iload_n 2, 1) := by decide +kernel
theorem dX1_winningFrom_24 : decode cX1_winningFrom 24 = .ok (.iload 4, 2) := by decide +kernel
theorem dX1_winningFrom_26 : decode cX1_winningFrom 26 = .ok (.ishr, 1) := by decide +kernel
theorem dX1_winningFrom_27 : decode cX1_winningFrom 27 = .ok (.iconst 1, 1) := by decide +kernel
theorem dX1_winningFrom_28 : decode cX1_winningFrom 28 = .ok (.iand, 1) := by decide +kernel
theorem dX1_winningFrom_29 : decode cX1_winningFrom 29 = .ok (.ifCond .eq 29, 3) := by decide +kernel
theorem dX1_winningFrom_32 : decode cX1_winningFrom 32 = .ok (.aload_n 0, 1) := by decide +kernel
theorem dX1_winningFrom_33 : decode cX1_winningFrom 33 = .ok (.aload_n 0, 1) := by decide +kernel
theorem dX1_winningFrom_34 : decode cX1_winningFrom 34 = .ok (.iload_n 1, 1) := by decide +kernel
theorem dX1_winningFrom_35 : decode cX1_winningFrom 35 = .ok (.iload 4, 2) := by decide +kernel
theorem dX1_winningFrom_37 : decode cX1_winningFrom 37 = .ok (.invokevirtual 90, 3) := by decide +kernel
theorem dX1_winningFrom_40 : decode cX1_winningFrom 40 = .ok (.bipush 12, 2) := by decide +kernel
theorem dX1_winningFrom_42 : decode cX1_winningFrom 42 = .ok (.invokevirtual 72, 3) := by decide +kernel
theorem dX1_winningFrom_45 : decode cX1_winningFrom 45 = .ok (.invokestatic 75, 3) := by decide +kernel
theorem dX1_winningFrom_48 : decode cX1_winningFrom 48 = .ok (.ifCond .ne 10, 3) := by decide +kernel
theorem dX1_winningFrom_51 : decode cX1_winningFrom 51 = .ok (.iload_n 3, 1) := by decide +kernel
theorem dX1_winningFrom_52 : decode cX1_winningFrom 52 = .ok (.iconst 1, 1) := by decide +kernel
theorem dX1_winningFrom_53 : decode cX1_winningFrom 53 = .ok (.iload 4, 2) := by decide +kernel
theorem dX1_winningFrom_55 : decode cX1_winningFrom 55 = .ok (.ishl, 1) := by decide +kernel
theorem dX1_winningFrom_56 : decode cX1_winningFrom 56 = .ok (.ior, 1) := by decide +kernel
theorem dX1_winningFrom_57 : decode cX1_winningFrom 57 = .ok (.istore_n 3, 1) := by decide +kernel
theorem dX1_winningFrom_58 : decode cX1_winningFrom 58 = .ok (.iinc 4 1, 3) := by decide +kernel
theorem dX1_winningFrom_61 : decode cX1_winningFrom 61 = .ok (.goto (-50), 3) := by decide +kernel
theorem dX1_winningFrom_64 : decode cX1_winningFrom 64 = .ok (.iload_n 3, 1) := by decide +kernel
theorem dX1_winningFrom_65 : decode cX1_winningFrom 65 = .ok (.ireturn, 1) := by decide +kernel
theorem dX1_weigh_0 : decode cX1_weigh 0 = .ok (.aload_n 0, 1) := by decide +kernel
theorem dX1_weigh_1 : decode cX1_weigh 1 = .ok (.invokevirtual 47, 3) := by decide +kernel
theorem dX1_weigh_4 : decode cX1_weigh 4 = .ok (.ifCond .eq 10, 3) := by decide +kernel
theorem dX1_weigh_7 : decode cX1_weigh 7 = .ok (.iload_n 1, 1) := by decide +kernel
theorem dX1_weigh_8 : decode cX1_weigh 8 = .ok (.invokestatic 51, 3) := by decide +kernel
theorem dX1_weigh_11 : decode cX1_weigh 11 = .ok (.goto 7, 3) := by decide +kernel
theorem dX1_weigh_14 : decode cX1_weigh 14 = .ok (.iload_n 1, 1) := by decide +kernel
theorem dX1_weigh_15 : decode cX1_weigh 15 = .ok (.invokestatic 92, 3) := by decide +kernel
theorem dX1_weigh_18 : decode cX1_weigh 18 = .ok (.istore_n 3, 1) := by decide +kernel
theorem dX1_weigh_19 : decode cX1_weigh 19 = .ok (.aload_n 0, 1) := by decide +kernel
theorem dX1_weigh_20 : decode cX1_weigh 20 = .ok (.getfield 11, 3) := by decide +kernel
theorem dX1_weigh_23 : decode cX1_weigh 23 = .ok (.iload_n 3, 1) := by decide +kernel
theorem dX1_weigh_24 : decode cX1_weigh 24 = .ok (.iaload, 1) := by decide +kernel
theorem dX1_weigh_25 : decode cX1_weigh 25 = .ok (.bipush 9, 2) := by decide +kernel
theorem dX1_weigh_27 : decode cX1_weigh 27 = .ok (.iushr, 1) := by decide +kernel
theorem dX1_weigh_28 : decode cX1_weigh 28 = .ok (.aload_n 0, 1) := by decide +kernel
theorem dX1_weigh_29 : decode cX1_weigh 29 = .ok (.getfield 25, 3) := by decide +kernel
theorem dX1_weigh_32 : decode cX1_weigh 32 = .ok (.if_icmp .ne 14, 3) := by decide +kernel
theorem dX1_weigh_35 : decode cX1_weigh 35 = .ok (.aload_n 0, 1) := by decide +kernel
theorem dX1_weigh_36 : decode cX1_weigh 36 = .ok (.getfield 11, 3) := by decide +kernel
theorem dX1_weigh_39 : decode cX1_weigh 39 = .ok (.iload_n 3, 1) := by decide +kernel
theorem dX1_weigh_40 : decode cX1_weigh 40 = .ok (.iaload, 1) := by decide +kernel
theorem dX1_weigh_41 : decode cX1_weigh 41 = .ok (.sipush 511, 3) := by decide +kernel
theorem dX1_weigh_44 : decode cX1_weigh 44 = .ok (.iand, 1) := by decide +kernel
theorem dX1_weigh_45 : decode cX1_weigh 45 = .ok (.ireturn, 1) := by decide +kernel
theorem dX1_weigh_46 : decode cX1_weigh 46 = .ok (.iload_n 2, 1) := by decide +kernel
theorem dX1_weigh_47 : decode cX1_weigh 47 = .ok (.ifCond .le 11, 3) := by decide +kernel
theorem dX1_weigh_50 : decode cX1_weigh 50 = .ok (.aload_n 0, 1) := by decide +kernel
theorem dX1_weigh_51 : decode cX1_weigh 51 = .ok (.iload_n 1, 1) := by decide +kernel
theorem dX1_weigh_52 : decode cX1_weigh 52 = .ok (.invokevirtual 87, 3) := by decide +kernel
theorem dX1_weigh_55 : decode cX1_weigh 55 = .ok (.goto 4, 3) := by decide +kernel
theorem dX1_weigh_58 : decode cX1_weigh 58 = .ok (.iconst 0, 1) := by decide +kernel
theorem dX1_weigh_59 : decode cX1_weigh 59 = .ok (.istore 4, 2) := by decide +kernel
theorem dX1_weigh_61 : decode cX1_weigh 61 = .ok (.aload_n 0, 1) := by decide +kernel
theorem dX1_weigh_62 : decode cX1_weigh 62 = .ok (.getfield 21, 3) := by decide +kernel
theorem dX1_weigh_65 : decode cX1_weigh 65 = .ok (.iconst 4, 1) := by decide +kernel
theorem dX1_weigh_66 : decode cX1_weigh 66 = .ok (.if_icmp .ne 12, 3) := by decide +kernel
theorem dX1_weigh_69 : decode cX1_weigh 69 = .ok (.iload 4, 2) := by decide +kernel
theorem dX1_weigh_71 : decode cX1_weigh 71 = .ok (.ifCond .ne 7, 3) := by decide +kernel
theorem dX1_weigh_74 : decode cX1_weigh 74 = .ok (.iconst (-1), 1) := by decide +kernel
theorem dX1_weigh_75 : decode cX1_weigh 75 = .ok (.goto 6, 3) := by decide +kernel
theorem dX1_weigh_78 : decode cX1_weigh 78 = .ok (.sipush 1000, 3) := by decide +kernel
theorem dX1_weigh_81 : decode cX1_weigh 81 = .ok (.istore 5, 2) := by decide +kernel
theorem dX1_weigh_83 : decode cX1_weigh 83 = .ok (.iconst (-1), 1) := by decide +kernel
theorem dX1_weigh_84 : decode cX1_weigh 84 = .ok (.istore 6, 2) := by decide +kernel
theorem dX1_weigh_86 : decode cX1_weigh 86 = .ok (.iconst 0, 1) := by decide +kernel
theorem dX1_weigh_87 : decode cX1_weigh 87 = .ok (.istore 7, 2) := by decide +kernel
theorem dX1_weigh_89 : decode cX1_weigh 89 = .ok (.iconst 0, 1) := by decide +kernel
theorem dX1_weigh_90 : decode cX1_weigh 90 = .ok (.istore 8, 2) := by decide +kernel
theorem dX1_weigh_92 : decode cX1_weigh 92 = .ok (.iload 8, 2) := by decide +kernel
theorem dX1_weigh_94 : decode cX1_weigh 94 = .ok (.aload_n 0, 1) := by decide +kernel
theorem dX1_weigh_95 : decode cX1_weigh 95 = .ok (.getfield 17, 3) := by decide +kernel
theorem dX1_weigh_98 : decode cX1_weigh 98 = .ok (.getfield 57, 3) := by decide +kernel
theorem dX1_weigh_101 : decode cX1_weigh 101 = .ok (.if_icmp .ge 79, 3) := by decide +kernel
theorem dX1_weigh_104 : decode cX1_weigh 104 = .ok (.iload 4, 2) := by decide +kernel
theorem dX1_weigh_106 : decode cX1_weigh 106 = .ok (.iload 8, 2) := by decide +kernel
theorem dX1_weigh_108 : decode cX1_weigh 108 = .ok (.ishr, 1) := by decide +kernel
theorem dX1_weigh_109 : decode cX1_weigh 109 = .ok (.iconst 1, 1) := by decide +kernel
theorem dX1_weigh_110 : decode cX1_weigh 110 = .ok (.iand, 1) := by decide +kernel
theorem dX1_weigh_111 : decode cX1_weigh 111 = .ok (.ifCond .eq 63, 3) := by decide +kernel
theorem dX1_weigh_114 : decode cX1_weigh 114 = .ok (.aload_n 0, 1) := by decide +kernel
theorem dX1_weigh_115 : decode cX1_weigh 115 = .ok (.aload_n 0, 1) := by decide +kernel
theorem dX1_weigh_116 : decode cX1_weigh 116 = .ok (.iload_n 1, 1) := by decide +kernel
theorem dX1_weigh_117 : decode cX1_weigh 117 = .ok (.iload 8, 2) := by decide +kernel
theorem dX1_weigh_119 : decode cX1_weigh 119 = .ok (.invokevirtual 90, 3) := by decide +kernel
theorem dX1_weigh_122 : decode cX1_weigh 122 = .ok (.iload_n 2, 1) := by decide +kernel
theorem dX1_weigh_123 : decode cX1_weigh 123 = .ok (.iconst 1, 1) := by decide +kernel
theorem dX1_weigh_124 : decode cX1_weigh 124 = .ok (.isub, 1) := by decide +kernel
theorem dX1_weigh_125 : decode cX1_weigh 125 = .ok (.invokevirtual 72, 3) := by decide +kernel
theorem dX1_weigh_128 : decode cX1_weigh 128 = .ok (.istore 9, 2) := by decide +kernel
theorem dX1_weigh_130 : decode cX1_weigh 130 = .ok (.iload 9, 2) := by decide +kernel
theorem dX1_weigh_132 : decode cX1_weigh 132 = .ok (.invokestatic 75, 3) := by decide +kernel
theorem dX1_weigh_135 : decode cX1_weigh 135 = .ok (.ifCond .ne 15, 3) := by decide +kernel
theorem dX1_weigh_138 : decode cX1_weigh 138 = .ok (.iload 5, 2) := by decide +kernel
theorem dX1_weigh_140 : decode cX1_weigh 140 = .ok (.iload 9, 2) := by decide +kernel
theorem dX1_weigh_142 : decode cX1_weigh 142 = .ok (.invokestatic 81, 3) := by decide +kernel
theorem dX1_weigh_145 : decode cX1_weigh 145 = .ok (.invokestatic 95, 3) := by decide +kernel
theorem dX1_weigh_148 : decode cX1_weigh 148 = .ok (.istore 5, 2) := by decide +kernel
theorem dX1_weigh_150 : decode cX1_weigh 150 = .ok (.iload 6, 2) := by decide +kernel
theorem dX1_weigh_152 : decode cX1_weigh 152 = .ok (.iload 9, 2) := by decide +kernel
theorem dX1_weigh_154 : decode cX1_weigh 154 = .ok (.invokestatic 81, 3) := by decide +kernel
theorem dX1_weigh_157 : decode cX1_weigh 157 = .ok (.invokestatic 100, 3) := by decide +kernel
theorem dX1_weigh_160 : decode cX1_weigh 160 = .ok (.istore 6, 2) := by decide +kernel
theorem dX1_weigh_162 : decode cX1_weigh 162 = .ok (.iload 7, 2) := by decide +kernel
theorem dX1_weigh_164 : decode cX1_weigh 164 = .ok (.iconst 1, 1) := by decide +kernel
theorem dX1_weigh_165 : decode cX1_weigh 165 = .ok (.iload 9, 2) := by decide +kernel
theorem dX1_weigh_167 : decode cX1_weigh 167 = .ok (.invokestatic 84, 3) := by decide +kernel
theorem dX1_weigh_170 : decode cX1_weigh 170 = .ok (.ishl, 1) := by decide +kernel
theorem dX1_weigh_171 : decode cX1_weigh 171 = .ok (.ior, 1) := by decide +kernel
theorem dX1_weigh_172 : decode cX1_weigh 172 = .ok (.istore 7, 2) := by decide +kernel
theorem dX1_weigh_174 : decode cX1_weigh 174 = .ok (.iinc 8 1, 3) := by decide +kernel
theorem dX1_weigh_177 : decode cX1_weigh 177 = .ok (.goto (-85), 3) := by decide +kernel
theorem dX1_weigh_180 : decode cX1_weigh 180 = .ok (.iload 7, 2) := by decide +kernel
theorem dX1_weigh_182 : decode cX1_weigh 182 = .ok (.iconst (-1), 1) := by decide +kernel
theorem dX1_weigh_183 : decode cX1_weigh 183 = .ok (.ixor, 1) := by decide +kernel
theorem dX1_weigh_184 : decode cX1_weigh 184 = .ok (.invokestatic 103, 3) := by decide +kernel
theorem dX1_weigh_187 : decode cX1_weigh 187 = .ok (.istore 8, 2) := by decide +kernel
theorem dX1_weigh_189 : decode cX1_weigh 189 = .ok (.iload 5, 2) := by decide +kernel
theorem dX1_weigh_191 : decode cX1_weigh 191 = .ok (.sipush 1000, 3) := by decide +kernel
theorem dX1_weigh_194 : decode cX1_weigh 194 = .ok (.if_icmp .ge 16, 3) := by decide +kernel
theorem dX1_weigh_197 : decode cX1_weigh 197 = .ok (.iconst 1, 1) := by decide +kernel
theorem dX1_weigh_198 : decode cX1_weigh 198 = .ok (.iconst 1, 1) := by decide +kernel
theorem dX1_weigh_199 : decode cX1_weigh 199 = .ok (.iload 5, 2) := by decide +kernel
theorem dX1_weigh_201 : decode cX1_weigh 201 = .ok (.iadd, 1) := by decide +kernel
theorem dX1_weigh_202 : decode cX1_weigh 202 = .ok (.iload 8, 2) := by decide +kernel
theorem dX1_weigh_204 : decode cX1_weigh 204 = .ok (.invokestatic 108, 3) := by decide +kernel
theorem dX1_weigh_207 : decode cX1_weigh 207 = .ok (.goto 13, 3) := by decide +kernel
theorem dX1_weigh_210 : decode cX1_weigh 210 = .ok (.iconst 0, 1) := by decide +kernel
theorem dX1_weigh_211 : decode cX1_weigh 211 = .ok (.iconst 1, 1) := by decide +kernel
theorem dX1_weigh_212 : decode cX1_weigh 212 = .ok (.iload 6, 2) := by decide +kernel
theorem dX1_weigh_214 : decode cX1_weigh 214 = .ok (.iadd, 1) := by decide +kernel
theorem dX1_weigh_215 : decode cX1_weigh 215 = .ok (.iload 8, 2) := by decide +kernel
theorem dX1_weigh_217 : decode cX1_weigh 217 = .ok (.invokestatic 108, 3) := by decide +kernel
theorem dX1_weigh_220 : decode cX1_weigh 220 = .ok (.istore 9, 2) := by decide +kernel
theorem dX1_weigh_222 : decode cX1_weigh 222 = .ok (.aload_n 0, 1) := by decide +kernel
theorem dX1_weigh_223 : decode cX1_weigh 223 = .ok (.getfield 11, 3) := by decide +kernel
theorem dX1_weigh_226 : decode cX1_weigh 226 = .ok (.iload_n 3, 1) := by decide +kernel
theorem dX1_weigh_227 : decode cX1_weigh 227 = .ok (.aload_n 0, 1) := by decide +kernel
theorem dX1_weigh_228 : decode cX1_weigh 228 = .ok (.getfield 25, 3) := by decide +kernel
theorem dX1_weigh_231 : decode cX1_weigh 231 = .ok (.bipush 9, 2) := by decide +kernel
theorem dX1_weigh_233 : decode cX1_weigh 233 = .ok (.ishl, 1) := by decide +kernel
theorem dX1_weigh_234 : decode cX1_weigh 234 = .ok (.iload 9, 2) := by decide +kernel
theorem dX1_weigh_236 : decode cX1_weigh 236 = .ok (.ior, 1) := by decide +kernel
theorem dX1_weigh_237 : decode cX1_weigh 237 = .ok (.iastore, 1) := by decide +kernel
theorem dX1_weigh_238 : decode cX1_weigh 238 = .ok (.iload 9, 2) := by decide +kernel
theorem dX1_weigh_240 : decode cX1_weigh 240 = .ok (.ireturn, 1) := by decide +kernel
theorem dX1_joined_0 : decode cX1_joined 0 = .ok (.iload_n 0, 1) := by decide +kernel
theorem dX1_joined_1 : decode cX1_joined 1 = .ok (.iload_n 1, 1) := by decide +kernel
theorem dX1_joined_2 : decode cX1_joined 2 = .ok (.iconst 1, 1) := by decide +kernel
theorem dX1_joined_3 : decode cX1_joined 3 = .ok (.ishl, 1) := by decide +kernel
theorem dX1_joined_4 : decode cX1_joined 4 = .ok (.ior, 1) := by decide +kernel
theorem dX1_joined_5 : decode cX1_joined 5 = .ok (.iload_n 2, 1) := by decide +kernel
theorem dX1_joined_6 : decode cX1_joined 6 = .ok (.iconst 5, 1) := by decide +kernel
theorem dX1_joined_7 : decode cX1_joined 7 = .ok (.ishl, 1) := by decide +kernel
theorem dX1_joined_8 : decode cX1_joined 8 = .ok (.ior, 1) := by decide +kernel
theorem dX1_joined_9 : decode cX1_joined 9 = .ok (.ireturn, 1) := by decide +kernel
theorem dX1_winsAs_0 : decode cX1_winsAs 0 = .ok (.iload_n 0, 1) := by decide +kernel
theorem dX1_winsAs_1 : decode cX1_winsAs 1 = .ok (.iconst 1, 1) := by decide +kernel
theorem dX1_winsAs_2 : decode cX1_winsAs 2 = .ok (.iand, 1) := by decide +kernel
theorem dX1_winsAs_3 : decode cX1_winsAs 3 = .ok (.ifCond .eq 7, 3) := by decide +kernel
theorem dX1_winsAs_6 : decode cX1_winsAs 6 = .ok (.iconst 1, 1) := by decide +kernel
theorem dX1_winsAs_7 : decode cX1_winsAs 7 = .ok (.goto 4, 3) := by decide +kernel
theorem dX1_winsAs_10 : decode cX1_winsAs 10 = .ok (.iconst 0, 1) := by decide +kernel
theorem dX1_winsAs_11 : decode cX1_winsAs 11 = .ok (.ireturn, 1) := by decide +kernel
theorem dX1_lengthAs_0 : decode cX1_lengthAs 0 = .ok (.iload_n 0, 1) := by decide +kernel
theorem dX1_lengthAs_1 : decode cX1_lengthAs 1 = .ok (.iconst 1, 1) := by decide +kernel
theorem dX1_lengthAs_2 : decode cX1_lengthAs 2 = .ok (.ishr, 1) := by decide +kernel
theorem dX1_lengthAs_3 : decode cX1_lengthAs 3 = .ok (.bipush 15, 2) := by decide +kernel
theorem dX1_lengthAs_5 : decode cX1_lengthAs 5 = .ok (.iand, 1) := by decide +kernel
theorem dX1_lengthAs_6 : decode cX1_lengthAs 6 = .ok (.ireturn, 1) := by decide +kernel
theorem dX1_nimAs_0 : decode cX1_nimAs 0 = .ok (.iload_n 0, 1) := by decide +kernel
theorem dX1_nimAs_1 : decode cX1_nimAs 1 = .ok (.iconst 5, 1) := by decide +kernel
theorem dX1_nimAs_2 : decode cX1_nimAs 2 = .ok (.ishr, 1) := by decide +kernel
theorem dX1_nimAs_3 : decode cX1_nimAs 3 = .ok (.bipush 15, 2) := by decide +kernel
theorem dX1_nimAs_5 : decode cX1_nimAs 5 = .ok (.iand, 1) := by decide +kernel
theorem dX1_nimAs_6 : decode cX1_nimAs 6 = .ok (.ireturn, 1) := by decide +kernel
theorem dX1_reachFrom_0 : decode cX1_reachFrom 0 = .ok (.aload_n 0, 1) := by decide +kernel
theorem dX1_reachFrom_1 : decode cX1_reachFrom 1 = .ok (.iload_n 1, 1) := by decide +kernel
theorem dX1_reachFrom_2 : decode cX1_reachFrom 2 = .ok (.invokevirtual 87, 3) := by decide +kernel
theorem dX1_reachFrom_5 : decode cX1_reachFrom 5 = .ok (.istore_n 2, 1) := by decide +kernel
theorem dX1_reachFrom_6 : decode cX1_reachFrom 6 = .ok (.iconst 0, 1) := by decide +kernel
theorem dX1_reachFrom_7 : decode cX1_reachFrom 7 = .ok (.istore_n 3, 1) := by decide +kernel
theorem dX1_reachFrom_8 : decode cX1_reachFrom 8 = .ok (.iconst 0, 1) := by decide +kernel
theorem dX1_reachFrom_9 : decode cX1_reachFrom 9 = .ok (.istore 4, 2) := by decide +kernel
theorem dX1_reachFrom_11 : decode cX1_reachFrom 11 = .ok (.iload 4, 2) := by decide +kernel
theorem dX1_reachFrom_13 : decode cX1_reachFrom 13 = .ok (.aload_n 0, 1) := by decide +kernel
theorem dX1_reachFrom_14 : decode cX1_reachFrom 14 = .ok (.getfield 17, 3) := by decide +kernel
theorem dX1_reachFrom_17 : decode cX1_reachFrom 17 = .ok (.getfield 57, 3) := by decide +kernel
theorem dX1_reachFrom_20 : decode cX1_reachFrom 20 = .ok (.if_icmp .ge 32, 3) := by decide +kernel
theorem dX1_reachFrom_23 : decode cX1_reachFrom 23 = .ok (.iload_n 2, 1) := by decide +kernel
theorem dX1_reachFrom_24 : decode cX1_reachFrom 24 = .ok (.iload 4, 2) := by decide +kernel
theorem dX1_reachFrom_26 : decode cX1_reachFrom 26 = .ok (.ishr, 1) := by decide +kernel
theorem dX1_reachFrom_27 : decode cX1_reachFrom 27 = .ok (.iconst 1, 1) := by decide +kernel
theorem dX1_reachFrom_28 : decode cX1_reachFrom 28 = .ok (.iand, 1) := by decide +kernel
theorem dX1_reachFrom_29 : decode cX1_reachFrom 29 = .ok (.ifCond .eq 17, 3) := by decide +kernel
theorem dX1_reachFrom_32 : decode cX1_reachFrom 32 = .ok (.iload_n 3, 1) := by decide +kernel
theorem dX1_reachFrom_33 : decode cX1_reachFrom 33 = .ok (.aload_n 0, 1) := by decide +kernel
theorem dX1_reachFrom_34 : decode cX1_reachFrom 34 = .ok (.aload_n 0, 1) := by decide +kernel
theorem dX1_reachFrom_35 : decode cX1_reachFrom 35 = .ok (.iload_n 1, 1) := by decide +kernel
theorem dX1_reachFrom_36 : decode cX1_reachFrom 36 = .ok (.iload 4, 2) := by decide +kernel
theorem dX1_reachFrom_38 : decode cX1_reachFrom 38 = .ok (.invokevirtual 90, 3) := by decide +kernel
theorem dX1_reachFrom_41 : decode cX1_reachFrom 41 = .ok (.invokevirtual 111, 3) := by decide +kernel
theorem dX1_reachFrom_44 : decode cX1_reachFrom 44 = .ok (.ior, 1) := by decide +kernel
theorem dX1_reachFrom_45 : decode cX1_reachFrom 45 = .ok (.istore_n 3, 1) := by decide +kernel
theorem dX1_reachFrom_46 : decode cX1_reachFrom 46 = .ok (.iinc 4 1, 3) := by decide +kernel
theorem dX1_reachFrom_49 : decode cX1_reachFrom 49 = .ok (.goto (-38), 3) := by decide +kernel
theorem dX1_reachFrom_52 : decode cX1_reachFrom 52 = .ok (.iload_n 3, 1) := by decide +kernel
theorem dX1_reachFrom_53 : decode cX1_reachFrom 53 = .ok (.ireturn, 1) := by decide +kernel
theorem dX1_spread_0 : decode cX1_spread 0 = .ok (.iconst 1, 1) := by decide +kernel
theorem dX1_spread_1 : decode cX1_spread 1 = .ok (.iload_n 1, 1) := by decide +kernel
theorem dX1_spread_2 : decode cX1_spread 2 = .ok (.invokestatic 35, 3) := by decide +kernel
theorem dX1_spread_5 : decode cX1_spread 5 = .ok (.ishl, 1) := by decide +kernel
theorem dX1_spread_6 : decode cX1_spread 6 = .ok (.istore_n 2, 1) := by decide +kernel
theorem dX1_spread_7 : decode cX1_spread 7 = .ok (.iconst 1, 1) := by decide +kernel
theorem dX1_spread_8 : decode cX1_spread 8 = .ok (.istore_n 3, 1) := by decide +kernel
theorem dX1_spread_9 : decode cX1_spread 9 = .ok (.iload_n 3, 1) := by decide +kernel
theorem dX1_spread_10 : decode cX1_spread 10 = .ok (.aload_n 0, 1) := by decide +kernel
theorem dX1_spread_11 : decode cX1_spread 11 = .ok (.getfield 17, 3) := by decide +kernel
theorem dX1_spread_14 : decode cX1_spread 14 = .ok (.getfield 114, 3) := by decide +kernel
theorem dX1_spread_17 : decode cX1_spread 17 = .ok (.if_icmp .ge 58, 3) := by decide +kernel
theorem dX1_spread_20 : decode cX1_spread 20 = .ok (.iconst 0, 1) := by decide +kernel
theorem dX1_spread_21 : decode cX1_spread 21 = .ok (.istore 4, 2) := by decide +kernel
theorem dX1_spread_23 : decode cX1_spread 23 = .ok (.iload 4, 2) := by decide +kernel
theorem dX1_spread_25 : decode cX1_spread 25 = .ok (.aload_n 0, 1) := by decide +kernel
theorem dX1_spread_26 : decode cX1_spread 26 = .ok (.getfield 17, 3) := by decide +kernel
theorem dX1_spread_29 : decode cX1_spread 29 = .ok (.getfield 114, 3) := by decide +kernel
theorem dX1_spread_32 : decode cX1_spread 32 = .ok (.if_icmp .ge 37, 3) := by decide +kernel
theorem dX1_spread_35 : decode cX1_spread 35 = .ok (.iload_n 2, 1) := by decide +kernel
theorem dX1_spread_36 : decode cX1_spread 36 = .ok (.iload 4, 2) := by decide +kernel
theorem dX1_spread_38 : decode cX1_spread 38 = .ok (.ishr, 1) := by decide +kernel
theorem dX1_spread_39 : decode cX1_spread 39 = .ok (.iconst 1, 1) := by decide +kernel
theorem dX1_spread_40 : decode cX1_spread 40 = .ok (.iand, 1) := by decide +kernel
theorem dX1_spread_41 : decode cX1_spread 41 = .ok (.ifCond .eq 22, 3) := by decide +kernel
theorem dX1_spread_44 : decode cX1_spread 44 = .ok (.iload_n 2, 1) := by decide +kernel
theorem dX1_spread_45 : decode cX1_spread 45 = .ok (.aload_n 0, 1) := by decide +kernel
theorem dX1_spread_46 : decode cX1_spread 46 = .ok (.aload_n 0, 1) := by decide +kernel
theorem dX1_spread_47 : decode cX1_spread 47 = .ok (.iload_n 1, 1) := by decide +kernel
theorem dX1_spread_48 : decode cX1_spread 48 = .ok (.iload 4, 2) := by decide +kernel
theorem dX1_spread_50 : decode cX1_spread 50 = .ok (.invokestatic 117, 3) := by decide +kernel
theorem dX1_spread_53 : decode cX1_spread 53 = .ok (.invokevirtual 87, 3) := by decide +kernel
theorem dX1_spread_56 : decode cX1_spread 56 = .ok (.iload 4, 2) := by decide +kernel
theorem dX1_spread_58 : decode cX1_spread 58 = .ok (.invokevirtual 120, 3) := by decide +kernel
theorem dX1_spread_61 : decode cX1_spread 61 = .ok (.ior, 1) := by decide +kernel
theorem dX1_spread_62 : decode cX1_spread 62 = .ok (.istore_n 2, 1) := by decide +kernel
theorem dX1_spread_63 : decode cX1_spread 63 = .ok (.iinc 4 1, 3) := by decide +kernel
theorem dX1_spread_66 : decode cX1_spread 66 = .ok (.goto (-43), 3) := by decide +kernel
theorem dX1_spread_69 : decode cX1_spread 69 = .ok (.iinc 3 1, 3) := by decide +kernel
theorem dX1_spread_72 : decode cX1_spread 72 = .ok (.goto (-63), 3) := by decide +kernel
theorem dX1_spread_75 : decode cX1_spread 75 = .ok (.iload_n 2, 1) := by decide +kernel
theorem dX1_spread_76 : decode cX1_spread 76 = .ok (.ireturn, 1) := by decide +kernel
theorem dX1_farEnds_0 : decode cX1_farEnds 0 = .ok (.iconst 0, 1) := by decide +kernel
theorem dX1_farEnds_1 : decode cX1_farEnds 1 = .ok (.istore_n 3, 1) := by decide +kernel
theorem dX1_farEnds_2 : decode cX1_farEnds 2 = .ok (.iconst 0, 1) := by decide +kernel
theorem dX1_farEnds_3 : decode cX1_farEnds 3 = .ok (.istore 4, 2) := by decide +kernel
theorem dX1_farEnds_5 : decode cX1_farEnds 5 = .ok (.iload 4, 2) := by decide +kernel
theorem dX1_farEnds_7 : decode cX1_farEnds 7 = .ok (.aload_n 0, 1) := by decide +kernel
theorem dX1_farEnds_8 : decode cX1_farEnds 8 = .ok (.getfield 17, 3) := by decide +kernel
theorem dX1_farEnds_11 : decode cX1_farEnds 11 = .ok (.getfield 57, 3) := by decide +kernel
theorem dX1_farEnds_14 : decode cX1_farEnds 14 = .ok (.if_icmp .ge 33, 3) := by decide +kernel
theorem dX1_farEnds_17 : decode cX1_farEnds 17 = .ok (.iload_n 1, 1) := by decide +kernel
theorem dX1_farEnds_18 : decode cX1_farEnds 18 = .ok (.iload 4, 2) := by decide +kernel
theorem dX1_farEnds_20 : decode cX1_farEnds 20 = .ok (.ishr, 1) := by decide +kernel
theorem dX1_farEnds_21 : decode cX1_farEnds 21 = .ok (.iconst 1, 1) := by decide +kernel
theorem dX1_farEnds_22 : decode cX1_farEnds 22 = .ok (.iand, 1) := by decide +kernel
theorem dX1_farEnds_23 : decode cX1_farEnds 23 = .ok (.ifCond .eq 18, 3) := by decide +kernel
theorem dX1_farEnds_26 : decode cX1_farEnds 26 = .ok (.iload_n 3, 1) := by decide +kernel
theorem dX1_farEnds_27 : decode cX1_farEnds 27 = .ok (.iconst 1, 1) := by decide +kernel
theorem dX1_farEnds_28 : decode cX1_farEnds 28 = .ok (.aload_n 0, 1) := by decide +kernel
theorem dX1_farEnds_29 : decode cX1_farEnds 29 = .ok (.getfield 17, 3) := by decide +kernel
theorem dX1_farEnds_32 : decode cX1_farEnds 32 = .ok (.iload 4, 2) := by decide +kernel
theorem dX1_farEnds_34 : decode cX1_farEnds 34 = .ok (.iload_n 2, 1) := by decide +kernel
theorem dX1_farEnds_35 : decode cX1_farEnds 35 = .ok (.invokevirtual 60, 3) := by decide +kernel
theorem dX1_farEnds_38 : decode cX1_farEnds 38 = .ok (.ishl, 1) := by decide +kernel
theorem dX1_farEnds_39 : decode cX1_farEnds 39 = .ok (.ior, 1) := by decide +kernel
theorem dX1_farEnds_40 : decode cX1_farEnds 40 = .ok (.istore_n 3, 1) := by decide +kernel
theorem dX1_farEnds_41 : decode cX1_farEnds 41 = .ok (.iinc 4 1, 3) := by decide +kernel
theorem dX1_farEnds_44 : decode cX1_farEnds 44 = .ok (.goto (-39), 3) := by decide +kernel
theorem dX1_farEnds_47 : decode cX1_farEnds 47 = .ok (.iload_n 3, 1) := by decide +kernel
theorem dX1_farEnds_48 : decode cX1_farEnds 48 = .ok (.ireturn, 1) := by decide +kernel
theorem dX2_init_0 : decode cX2_init 0 = .ok (.aload_n 0, 1) := by decide +kernel
theorem dX2_init_1 : decode cX2_init 1 = .ok (.invokespecial 3, 3) := by decide +kernel
theorem dX2_init_4 : decode cX2_init 4 = .ok (.aload_n 0, 1) := by decide +kernel
theorem dX2_init_5 : decode cX2_init 5 = .ok (.iconst 4, 1) := by decide +kernel
theorem dX2_init_6 : decode cX2_init 6 = .ok (.putfield 9, 3) := by decide +kernel
theorem dX2_init_9 : decode cX2_init 9 = .ok (.aload_n 0, 1) := by decide +kernel
theorem dX2_init_10 : decode cX2_init 10 = .ok (.bipush 12, 2) := by decide +kernel
theorem dX2_init_12 : decode cX2_init 12 = .ok (.newarray .int, 2) := by decide +kernel
theorem dX2_init_14 : decode cX2_init 14 = .ok (.putfield 15, 3) := by decide +kernel
theorem dX2_init_17 : decode cX2_init 17 = .ok (.aload_n 0, 1) := by decide +kernel
theorem dX2_init_18 : decode cX2_init 18 = .ok (.bipush 12, 2) := by decide +kernel
theorem dX2_init_20 : decode cX2_init 20 = .ok (.newarray .int, 2) := by decide +kernel
theorem dX2_init_22 : decode cX2_init 22 = .ok (.putfield 19, 3) := by decide +kernel
theorem dX2_init_25 : decode cX2_init 25 = .ok (.aload_n 0, 1) := by decide +kernel
theorem dX2_init_26 : decode cX2_init 26 = .ok (.bipush 12, 2) := by decide +kernel
theorem dX2_init_28 : decode cX2_init 28 = .ok (.newarray .int, 2) := by decide +kernel
theorem dX2_init_30 : decode cX2_init 30 = .ok (.putfield 22, 3) := by decide +kernel
theorem dX2_init_33 : decode cX2_init 33 = .ok (.aload_n 0, 1) := by decide +kernel
theorem dX2_init_34 : decode cX2_init 34 = .ok (.bipush 16, 2) := by decide +kernel
theorem dX2_init_36 : decode cX2_init 36 = .ok (.newarray .int, 2) := by decide +kernel
theorem dX2_init_38 : decode cX2_init 38 = .ok (.putfield 25, 3) := by decide +kernel
theorem dX2_init_41 : decode cX2_init 41 = .ok (.aload_n 0, 1) := by decide +kernel
theorem dX2_init_42 : decode cX2_init 42 = .ok (.bipush 16, 2) := by decide +kernel
theorem dX2_init_44 : decode cX2_init 44 = .ok (.newarray .int, 2) := by decide +kernel
theorem dX2_init_46 : decode cX2_init 46 = .ok (.putfield 28, 3) := by decide +kernel
theorem dX2_init_49 : decode cX2_init 49 = .ok (.aload_n 0, 1) := by decide +kernel
theorem dX2_init_50 : decode cX2_init 50 = .ok (.bipush 16, 2) := by decide +kernel
theorem dX2_init_52 : decode cX2_init 52 = .ok (.newarray .int, 2) := by decide +kernel
theorem dX2_init_54 : decode cX2_init 54 = .ok (.putfield 31, 3) := by decide +kernel
theorem dX2_init_57 : decode cX2_init 57 = .ok (.aload_n 0, 1) := by decide +kernel
theorem dX2_init_58 : decode cX2_init 58 = .ok (.bipush 16, 2) := by decide +kernel
theorem dX2_init_60 : decode cX2_init 60 = .ok (.newarray .int, 2) := by decide +kernel
theorem dX2_init_62 : decode cX2_init 62 = .ok (.putfield 34, 3) := by decide +kernel
theorem dX2_init_65 : decode cX2_init 65 = .ok (.aload_n 0, 1) := by decide +kernel
theorem dX2_init_66 : decode cX2_init 66 = .ok (.bipush 16, 2) := by decide +kernel
theorem dX2_init_68 : decode cX2_init 68 = .ok (.newarray .int, 2) := by decide +kernel
theorem dX2_init_70 : decode cX2_init 70 = .ok (.putfield 37, 3) := by decide +kernel
theorem dX2_init_73 : decode cX2_init 73 = .ok (.return_, 1) := by decide +kernel
theorem dX2_hasPoint_0 : decode cX2_hasPoint 0 = .ok (.iload_n 1, 1) := by decide +kernel
theorem dX2_hasPoint_1 : decode cX2_hasPoint 1 = .ok (.ifCond .lt 15, 3) := by decide +kernel
theorem dX2_hasPoint_4 : decode cX2_hasPoint 4 = .ok (.iload_n 1, 1) := by decide +kernel
theorem dX2_hasPoint_5 : decode cX2_hasPoint 5 = .ok (.aload_n 0, 1) := by decide +kernel
theorem dX2_hasPoint_6 : decode cX2_hasPoint 6 = .ok (.getfield 9, 3) := by decide +kernel
theorem dX2_hasPoint_9 : decode cX2_hasPoint 9 = .ok (.if_icmp .ge 7, 3) := by decide +kernel
theorem dX2_hasPoint_12 : decode cX2_hasPoint 12 = .ok (.iconst 1, 1) := by decide +kernel
theorem dX2_hasPoint_13 : decode cX2_hasPoint 13 = .ok (.goto 4, 3) := by decide +kernel
theorem dX2_hasPoint_16 : decode cX2_hasPoint 16 = .ok (.iconst 0, 1) := by decide +kernel
theorem dX2_hasPoint_17 : decode cX2_hasPoint 17 = .ok (.ireturn, 1) := by decide +kernel
theorem dX2_hasLine_0 : decode cX2_hasLine 0 = .ok (.iload_n 1, 1) := by decide +kernel
theorem dX2_hasLine_1 : decode cX2_hasLine 1 = .ok (.ifCond .lt 15, 3) := by decide +kernel
theorem dX2_hasLine_4 : decode cX2_hasLine 4 = .ok (.iload_n 1, 1) := by decide +kernel
theorem dX2_hasLine_5 : decode cX2_hasLine 5 = .ok (.aload_n 0, 1) := by decide +kernel
theorem dX2_hasLine_6 : decode cX2_hasLine 6 = .ok (.getfield 40, 3) := by decide +kernel
theorem dX2_hasLine_9 : decode cX2_hasLine 9 = .ok (.if_icmp .ge 7, 3) := by decide +kernel
theorem dX2_hasLine_12 : decode cX2_hasLine 12 = .ok (.iconst 1, 1) := by decide +kernel
theorem dX2_hasLine_13 : decode cX2_hasLine 13 = .ok (.goto 4, 3) := by decide +kernel
theorem dX2_hasLine_16 : decode cX2_hasLine 16 = .ok (.iconst 0, 1) := by decide +kernel
theorem dX2_hasLine_17 : decode cX2_hasLine 17 = .ok (.ireturn, 1) := by decide +kernel
theorem dX2_everyPoint_0 : decode cX2_everyPoint 0 = .ok (.iconst 1, 1) := by decide +kernel
theorem dX2_everyPoint_1 : decode cX2_everyPoint 1 = .ok (.aload_n 0, 1) := by decide +kernel
theorem dX2_everyPoint_2 : decode cX2_everyPoint 2 = .ok (.getfield 9, 3) := by decide +kernel
theorem dX2_everyPoint_5 : decode cX2_everyPoint 5 = .ok (.ishl, 1) := by decide +kernel
theorem dX2_everyPoint_6 : decode cX2_everyPoint 6 = .ok (.iconst 1, 1) := by decide +kernel
theorem dX2_everyPoint_7 : decode cX2_everyPoint 7 = .ok (.isub, 1) := by decide +kernel
theorem dX2_everyPoint_8 : decode cX2_everyPoint 8 = .ok (.ireturn, 1) := by decide +kernel
theorem dX2_clear_0 : decode cX2_clear 0 = .ok (.aload_n 0, 1) := by decide +kernel
theorem dX2_clear_1 : decode cX2_clear 1 = .ok (.iload_n 1, 1) := by decide +kernel
theorem dX2_clear_2 : decode cX2_clear 2 = .ok (.putfield 9, 3) := by decide +kernel
theorem dX2_clear_5 : decode cX2_clear 5 = .ok (.aload_n 0, 1) := by decide +kernel
theorem dX2_clear_6 : decode cX2_clear 6 = .ok (.iconst 0, 1) := by decide +kernel
theorem dX2_clear_7 : decode cX2_clear 7 = .ok (.putfield 40, 3) := by decide +kernel
theorem dX2_clear_10 : decode cX2_clear 10 = .ok (.aload_n 0, 1) := by decide +kernel
theorem dX2_clear_11 : decode cX2_clear 11 = .ok (.invokevirtual 43, 3) := by decide +kernel
theorem dX2_clear_14 : decode cX2_clear 14 = .ok (.return_, 1) := by decide +kernel
theorem dX2_join_0 : decode cX2_join 0 = .ok (.aload_n 0, 1) := by decide +kernel
theorem dX2_join_1 : decode cX2_join 1 = .ok (.getfield 40, 3) := by decide +kernel
theorem dX2_join_4 : decode cX2_join 4 = .ok (.bipush 12, 2) := by decide +kernel
theorem dX2_join_6 : decode cX2_join 6 = .ok (.if_icmp .ge 47, 3) := by decide +kernel
theorem dX2_join_9 : decode cX2_join 9 = .ok (.aload_n 0, 1) := by decide +kernel
theorem dX2_join_10 : decode cX2_join 10 = .ok (.getfield 15, 3) := by decide +kernel
theorem dX2_join_13 : decode cX2_join 13 = .ok (.aload_n 0, 1) := by decide +kernel
theorem dX2_join_14 : decode cX2_join 14 = .ok (.getfield 40, 3) := by decide +kernel
theorem dX2_join_17 : decode cX2_join 17 = .ok (.iload_n 1, 1) := by decide +kernel
theorem dX2_join_18 : decode cX2_join 18 = .ok (.iastore, 1) := by decide +kernel
theorem dX2_join_19 : decode cX2_join 19 = .ok (.aload_n 0, 1) := by decide +kernel
theorem dX2_join_20 : decode cX2_join 20 = .ok (.getfield 19, 3) := by decide +kernel
theorem dX2_join_23 : decode cX2_join 23 = .ok (.aload_n 0, 1) := by decide +kernel
theorem dX2_join_24 : decode cX2_join 24 = .ok (.getfield 40, 3) := by decide +kernel
theorem dX2_join_27 : decode cX2_join 27 = .ok (.iload_n 2, 1) := by decide +kernel
theorem dX2_join_28 : decode cX2_join 28 = .ok (.iastore, 1) := by decide +kernel
theorem dX2_join_29 : decode cX2_join 29 = .ok (.aload_n 0, 1) := by decide +kernel
theorem dX2_join_30 : decode cX2_join 30 = .ok (.getfield 22, 3) := by decide +kernel
theorem dX2_join_33 : decode cX2_join 33 = .ok (.aload_n 0, 1) := by decide +kernel
theorem dX2_join_34 : decode cX2_join 34 = .ok (.getfield 40, 3) := by decide +kernel
theorem dX2_join_37 : decode cX2_join 37 = .ok (.iload_n 3, 1) := by decide +kernel
theorem dX2_join_38 : decode cX2_join 38 = .ok (.iastore, 1) := by decide +kernel
theorem dX2_join_39 : decode cX2_join 39 = .ok (.aload_n 0, 1) := by decide +kernel
theorem dX2_join_40 : decode cX2_join 40 = .ok (.dup, 1) := by decide +kernel
theorem dX2_join_41 : decode cX2_join 41 = .ok (.getfield 40, 3) := by decide +kernel
theorem dX2_join_44 : decode cX2_join 44 = .ok (.iconst 1, 1) := by decide +kernel
theorem dX2_join_45 : decode cX2_join 45 = .ok (.iadd, 1) := by decide +kernel
theorem dX2_join_46 : decode cX2_join 46 = .ok (.putfield 40, 3) := by decide +kernel
theorem dX2_join_49 : decode cX2_join 49 = .ok (.aload_n 0, 1) := by decide +kernel
theorem dX2_join_50 : decode cX2_join 50 = .ok (.invokevirtual 43, 3) := by decide +kernel
theorem dX2_join_53 : decode cX2_join 53 = .ok (.return_, 1) := by decide +kernel
theorem dX2_turn_0 : decode cX2_turn 0 = .ok (.aload_n 0, 1) := by decide +kernel
theorem dX2_turn_1 : decode cX2_turn 1 = .ok (.getfield 22, 3) := by decide +kernel
theorem dX2_turn_4 : decode cX2_turn 4 = .ok (.iload_n 1, 1) := by decide +kernel
theorem dX2_turn_5 : decode cX2_turn 5 = .ok (.iload_n 2, 1) := by decide +kernel
theorem dX2_turn_6 : decode cX2_turn 6 = .ok (.iastore, 1) := by decide +kernel
theorem dX2_turn_7 : decode cX2_turn 7 = .ok (.aload_n 0, 1) := by decide +kernel
theorem dX2_turn_8 : decode cX2_turn 8 = .ok (.invokevirtual 43, 3) := by decide +kernel
theorem dX2_turn_11 : decode cX2_turn 11 = .ok (.return_, 1) := by decide +kernel
theorem dX2_remove_0 : decode cX2_remove 0 = .ok (.aload_n 0, 1) := by decide +kernel
theorem dX2_remove_1 : decode cX2_remove 1 = .ok (.getfield 40, 3) := by decide +kernel
theorem dX2_remove_4 : decode cX2_remove 4 = .ok (.iload_n 1, 1) := by decide +kernel
theorem dX2_remove_5 : decode cX2_remove 5 = .ok (.isub, 1) := by decide +kernel
theorem dX2_remove_6 : decode cX2_remove 6 = .ok (.iconst 1, 1) := by decide +kernel
theorem dX2_remove_7 : decode cX2_remove 7 = .ok (.isub, 1) := by decide +kernel
theorem dX2_remove_8 : decode cX2_remove 8 = .ok (.istore_n 2, 1) := by decide +kernel
theorem dX2_remove_9 : decode cX2_remove 9 = .ok (.aload_n 0, 1) := by decide +kernel
theorem dX2_remove_10 : decode cX2_remove 10 = .ok (.getfield 15, 3) := by decide +kernel
theorem dX2_remove_13 : decode cX2_remove 13 = .ok (.iload_n 1, 1) := by decide +kernel
theorem dX2_remove_14 : decode cX2_remove 14 = .ok (.iconst 1, 1) := by decide +kernel
theorem dX2_remove_15 : decode cX2_remove 15 = .ok (.iadd, 1) := by decide +kernel
theorem dX2_remove_16 : decode cX2_remove 16 = .ok (.aload_n 0, 1) := by decide +kernel
theorem dX2_remove_17 : decode cX2_remove 17 = .ok (.getfield 15, 3) := by decide +kernel
theorem dX2_remove_20 : decode cX2_remove 20 = .ok (.iload_n 1, 1) := by decide +kernel
theorem dX2_remove_21 : decode cX2_remove 21 = .ok (.iload_n 2, 1) := by decide +kernel
theorem dX2_remove_22 : decode cX2_remove 22 = .ok (.invokestatic 46, 3) := by decide +kernel
theorem dX2_remove_25 : decode cX2_remove 25 = .ok (.aload_n 0, 1) := by decide +kernel
theorem dX2_remove_26 : decode cX2_remove 26 = .ok (.getfield 19, 3) := by decide +kernel
theorem dX2_remove_29 : decode cX2_remove 29 = .ok (.iload_n 1, 1) := by decide +kernel
theorem dX2_remove_30 : decode cX2_remove 30 = .ok (.iconst 1, 1) := by decide +kernel
theorem dX2_remove_31 : decode cX2_remove 31 = .ok (.iadd, 1) := by decide +kernel
theorem dX2_remove_32 : decode cX2_remove 32 = .ok (.aload_n 0, 1) := by decide +kernel
theorem dX2_remove_33 : decode cX2_remove 33 = .ok (.getfield 19, 3) := by decide +kernel
theorem dX2_remove_36 : decode cX2_remove 36 = .ok (.iload_n 1, 1) := by decide +kernel
theorem dX2_remove_37 : decode cX2_remove 37 = .ok (.iload_n 2, 1) := by decide +kernel
theorem dX2_remove_38 : decode cX2_remove 38 = .ok (.invokestatic 46, 3) := by decide +kernel
theorem dX2_remove_41 : decode cX2_remove 41 = .ok (.aload_n 0, 1) := by decide +kernel
theorem dX2_remove_42 : decode cX2_remove 42 = .ok (.getfield 22, 3) := by decide +kernel
theorem dX2_remove_45 : decode cX2_remove 45 = .ok (.iload_n 1, 1) := by decide +kernel
theorem dX2_remove_46 : decode cX2_remove 46 = .ok (.iconst 1, 1) := by decide +kernel
theorem dX2_remove_47 : decode cX2_remove 47 = .ok (.iadd, 1) := by decide +kernel
theorem dX2_remove_48 : decode cX2_remove 48 = .ok (.aload_n 0, 1) := by decide +kernel
theorem dX2_remove_49 : decode cX2_remove 49 = .ok (.getfield 22, 3) := by decide +kernel
theorem dX2_remove_52 : decode cX2_remove 52 = .ok (.iload_n 1, 1) := by decide +kernel
theorem dX2_remove_53 : decode cX2_remove 53 = .ok (.iload_n 2, 1) := by decide +kernel
theorem dX2_remove_54 : decode cX2_remove 54 = .ok (.invokestatic 46, 3) := by decide +kernel
theorem dX2_remove_57 : decode cX2_remove 57 = .ok (.aload_n 0, 1) := by decide +kernel
theorem dX2_remove_58 : decode cX2_remove 58 = .ok (.dup, 1) := by decide +kernel
theorem dX2_remove_59 : decode cX2_remove 59 = .ok (.getfield 40, 3) := by decide +kernel
theorem dX2_remove_62 : decode cX2_remove 62 = .ok (.iconst 1, 1) := by decide +kernel
theorem dX2_remove_63 : decode cX2_remove 63 = .ok (.isub, 1) := by decide +kernel
theorem dX2_remove_64 : decode cX2_remove 64 = .ok (.putfield 40, 3) := by decide +kernel
theorem dX2_remove_67 : decode cX2_remove 67 = .ok (.aload_n 0, 1) := by decide +kernel
theorem dX2_remove_68 : decode cX2_remove 68 = .ok (.invokevirtual 43, 3) := by decide +kernel
theorem dX2_remove_71 : decode cX2_remove 71 = .ok (.return_, 1) := by decide +kernel
theorem dX2_become_0 : decode cX2_become 0 = .ok (.aload_n 0, 1) := by decide +kernel
theorem dX2_become_1 : decode cX2_become 1 = .ok (.aload_n 1, 1) := by decide +kernel
theorem dX2_become_2 : decode cX2_become 2 = .ok (.getfield 9, 3) := by decide +kernel
theorem dX2_become_5 : decode cX2_become 5 = .ok (.putfield 9, 3) := by decide +kernel
theorem dX2_become_8 : decode cX2_become 8 = .ok (.aload_n 0, 1) := by decide +kernel
theorem dX2_become_9 : decode cX2_become 9 = .ok (.aload_n 1, 1) := by decide +kernel
theorem dX2_become_10 : decode cX2_become 10 = .ok (.getfield 40, 3) := by decide +kernel
theorem dX2_become_13 : decode cX2_become 13 = .ok (.putfield 40, 3) := by decide +kernel
theorem dX2_become_16 : decode cX2_become 16 = .ok (.aload_n 1, 1) := by decide +kernel
theorem dX2_become_17 : decode cX2_become 17 = .ok (.getfield 15, 3) := by decide +kernel
theorem dX2_become_20 : decode cX2_become 20 = .ok (.iconst 0, 1) := by decide +kernel
theorem dX2_become_21 : decode cX2_become 21 = .ok (.aload_n 0, 1) := by decide +kernel
theorem dX2_become_22 : decode cX2_become 22 = .ok (.getfield 15, 3) := by decide +kernel
theorem dX2_become_25 : decode cX2_become 25 = .ok (.iconst 0, 1) := by decide +kernel
theorem dX2_become_26 : decode cX2_become 26 = .ok (.bipush 12, 2) := by decide +kernel
theorem dX2_become_28 : decode cX2_become 28 = .ok (.invokestatic 46, 3) := by decide +kernel
theorem dX2_become_31 : decode cX2_become 31 = .ok (.aload_n 1, 1) := by decide +kernel
theorem dX2_become_32 : decode cX2_become 32 = .ok (.getfield 19, 3) := by decide +kernel
theorem dX2_become_35 : decode cX2_become 35 = .ok (.iconst 0, 1) := by decide +kernel
theorem dX2_become_36 : decode cX2_become 36 = .ok (.aload_n 0, 1) := by decide +kernel
theorem dX2_become_37 : decode cX2_become 37 = .ok (.getfield 19, 3) := by decide +kernel
theorem dX2_become_40 : decode cX2_become 40 = .ok (.iconst 0, 1) := by decide +kernel
theorem dX2_become_41 : decode cX2_become 41 = .ok (.bipush 12, 2) := by decide +kernel
theorem dX2_become_43 : decode cX2_become 43 = .ok (.invokestatic 46, 3) := by decide +kernel
theorem dX2_become_46 : decode cX2_become 46 = .ok (.aload_n 1, 1) := by decide +kernel
theorem dX2_become_47 : decode cX2_become 47 = .ok (.getfield 22, 3) := by decide +kernel
theorem dX2_become_50 : decode cX2_become 50 = .ok (.iconst 0, 1) := by decide +kernel
theorem dX2_become_51 : decode cX2_become 51 = .ok (.aload_n 0, 1) := by decide +kernel
theorem dX2_become_52 : decode cX2_become 52 = .ok (.getfield 22, 3) := by decide +kernel
theorem dX2_become_55 : decode cX2_become 55 = .ok (.iconst 0, 1) := by decide +kernel
theorem dX2_become_56 : decode cX2_become 56 = .ok (.bipush 12, 2) := by decide +kernel
theorem dX2_become_58 : decode cX2_become 58 = .ok (.invokestatic 46, 3) := by decide +kernel
theorem dX2_become_61 : decode cX2_become 61 = .ok (.aload_n 0, 1) := by decide +kernel
theorem dX2_become_62 : decode cX2_become 62 = .ok (.invokevirtual 43, 3) := by decide +kernel
theorem dX2_become_65 : decode cX2_become 65 = .ok (.return_, 1) := by decide +kernel
theorem dX2_gather_0 : decode cX2_gather 0 = .ok (.aload_n 0, 1) := by decide +kernel
theorem dX2_gather_1 : decode cX2_gather 1 = .ok (.getfield 25, 3) := by decide +kernel
theorem dX2_gather_4 : decode cX2_gather 4 = .ok (.iconst 0, 1) := by decide +kernel
theorem dX2_gather_5 : decode cX2_gather 5 = .ok (.invokestatic 52, 3) := by decide +kernel
theorem dX2_gather_8 : decode cX2_gather 8 = .ok (.aload_n 0, 1) := by decide +kernel
theorem dX2_gather_9 : decode cX2_gather 9 = .ok (.getfield 28, 3) := by decide +kernel
theorem dX2_gather_12 : decode cX2_gather 12 = .ok (.iconst 0, 1) := by decide +kernel
theorem dX2_gather_13 : decode cX2_gather 13 = .ok (.invokestatic 52, 3) := by decide +kernel
theorem dX2_gather_16 : decode cX2_gather 16 = .ok (.aload_n 0, 1) := by decide +kernel
theorem dX2_gather_17 : decode cX2_gather 17 = .ok (.getfield 31, 3) := by decide +kernel
theorem dX2_gather_20 : decode cX2_gather 20 = .ok (.iconst 0, 1) := by decide +kernel
theorem dX2_gather_21 : decode cX2_gather 21 = .ok (.invokestatic 52, 3) := by decide +kernel
theorem dX2_gather_24 : decode cX2_gather 24 = .ok (.aload_n 0, 1) := by decide +kernel
theorem dX2_gather_25 : decode cX2_gather 25 = .ok (.getfield 34, 3) := by decide +kernel
theorem dX2_gather_28 : decode cX2_gather 28 = .ok (.iconst 0, 1) := by decide +kernel
theorem dX2_gather_29 : decode cX2_gather 29 = .ok (.invokestatic 52, 3) := by decide +kernel
theorem dX2_gather_32 : decode cX2_gather 32 = .ok (.aload_n 0, 1) := by decide +kernel
theorem dX2_gather_33 : decode cX2_gather 33 = .ok (.getfield 37, 3) := by decide +kernel
theorem dX2_gather_36 : decode cX2_gather 36 = .ok (.iconst 0, 1) := by decide +kernel
theorem dX2_gather_37 : decode cX2_gather 37 = .ok (.invokestatic 52, 3) := by decide +kernel
theorem dX2_gather_40 : decode cX2_gather 40 = .ok (.iconst 0, 1) := by decide +kernel
theorem dX2_gather_41 : decode cX2_gather 41 = .ok (.istore_n 1, 1) := by decide +kernel
theorem dX2_gather_42 : decode cX2_gather 42 = .ok (.iload_n 1, 1) := by decide +kernel
theorem dX2_gather_43 : decode cX2_gather 43 = .ok (.aload_n 0, 1) := by decide +kernel
theorem dX2_gather_44 : decode cX2_gather 44 = .ok (.getfield 40, 3) := by decide +kernel
theorem dX2_gather_47 : decode cX2_gather 47 = .ok (.if_icmp .ge 141, 3) := by decide +kernel
theorem dX2_gather_50 : decode cX2_gather 50 = .ok (.aload_n 0, 1) := by decide +kernel
theorem dX2_gather_51 : decode cX2_gather 51 = .ok (.getfield 25, 3) := by decide +kernel
theorem dX2_gather_54 : decode cX2_gather 54 = .ok (.aload_n 0, 1) := by decide +kernel
theorem dX2_gather_55 : decode cX2_gather 55 = .ok (.getfield 15, 3) := by decide +kernel
theorem dX2_gather_58 : decode cX2_gather 58 = .ok (.iload_n 1, 1) := by decide +kernel
theorem dX2_gather_59 : decode cX2_gather 59 = .ok (.iaload, 1) := by decide +kernel
theorem dX2_gather_60 : decode cX2_gather 60 = .ok (.dup2, 1) := by decide +kernel
theorem dX2_gather_61 : decode cX2_gather 61 = .ok (.iaload, 1) := by decide +kernel
theorem dX2_gather_62 : decode cX2_gather 62 = .ok (.iconst 1, 1) := by decide +kernel
theorem dX2_gather_63 : decode cX2_gather 63 = .ok (.iload_n 1, 1) := by decide +kernel
theorem dX2_gather_64 : decode cX2_gather 64 = .ok (.ishl, 1) := by decide +kernel
theorem dX2_gather_65 : decode cX2_gather 65 = .ok (.ior, 1) := by decide +kernel
theorem dX2_gather_66 : decode cX2_gather 66 = .ok (.iastore, 1) := by decide +kernel
theorem dX2_gather_67 : decode cX2_gather 67 = .ok (.aload_n 0, 1) := by decide +kernel
theorem dX2_gather_68 : decode cX2_gather 68 = .ok (.getfield 25, 3) := by decide +kernel
theorem dX2_gather_71 : decode cX2_gather 71 = .ok (.aload_n 0, 1) := by decide +kernel
theorem dX2_gather_72 : decode cX2_gather 72 = .ok (.getfield 19, 3) := by decide +kernel
theorem dX2_gather_75 : decode cX2_gather 75 = .ok (.iload_n 1, 1) := by decide +kernel
theorem dX2_gather_76 : decode cX2_gather 76 = .ok (.iaload, 1) := by decide +kernel
theorem dX2_gather_77 : decode cX2_gather 77 = .ok (.dup2, 1) := by decide +kernel
theorem dX2_gather_78 : decode cX2_gather 78 = .ok (.iaload, 1) := by decide +kernel
theorem dX2_gather_79 : decode cX2_gather 79 = .ok (.iconst 1, 1) := by decide +kernel
theorem dX2_gather_80 : decode cX2_gather 80 = .ok (.iload_n 1, 1) := by decide +kernel
theorem dX2_gather_81 : decode cX2_gather 81 = .ok (.ishl, 1) := by decide +kernel
theorem dX2_gather_82 : decode cX2_gather 82 = .ok (.ior, 1) := by decide +kernel
theorem dX2_gather_83 : decode cX2_gather 83 = .ok (.iastore, 1) := by decide +kernel
theorem dX2_gather_84 : decode cX2_gather 84 = .ok (.aload_n 0, 1) := by decide +kernel
theorem dX2_gather_85 : decode cX2_gather 85 = .ok (.getfield 34, 3) := by decide +kernel
theorem dX2_gather_88 : decode cX2_gather 88 = .ok (.aload_n 0, 1) := by decide +kernel
theorem dX2_gather_89 : decode cX2_gather 89 = .ok (.getfield 15, 3) := by decide +kernel
theorem dX2_gather_92 : decode cX2_gather 92 = .ok (.iload_n 1, 1) := by decide +kernel
theorem dX2_gather_93 : decode cX2_gather 93 = .ok (.iaload, 1) := by decide +kernel
theorem dX2_gather_94 : decode cX2_gather 94 = .ok (.dup2, 1) := by decide +kernel
theorem dX2_gather_95 : decode cX2_gather 95 = .ok (.iaload, 1) := by decide +kernel
theorem dX2_gather_96 : decode cX2_gather 96 = .ok (.iconst 1, 1) := by decide +kernel
theorem dX2_gather_97 : decode cX2_gather 97 = .ok (.aload_n 0, 1) := by decide +kernel
theorem dX2_gather_98 : decode cX2_gather 98 = .ok (.getfield 19, 3) := by decide +kernel
theorem dX2_gather_101 : decode cX2_gather 101 = .ok (.iload_n 1, 1) := by decide +kernel
theorem dX2_gather_102 : decode cX2_gather 102 = .ok (.iaload, 1) := by decide +kernel
theorem dX2_gather_103 : decode cX2_gather 103 = .ok (.ishl, 1) := by decide +kernel
theorem dX2_gather_104 : decode cX2_gather 104 = .ok (.ior, 1) := by decide +kernel
theorem dX2_gather_105 : decode cX2_gather 105 = .ok (.iastore, 1) := by decide +kernel
theorem dX2_gather_106 : decode cX2_gather 106 = .ok (.aload_n 0, 1) := by decide +kernel
theorem dX2_gather_107 : decode cX2_gather 107 = .ok (.getfield 34, 3) := by decide +kernel
theorem dX2_gather_110 : decode cX2_gather 110 = .ok (.aload_n 0, 1) := by decide +kernel
theorem dX2_gather_111 : decode cX2_gather 111 = .ok (.getfield 19, 3) := by decide +kernel
theorem dX2_gather_114 : decode cX2_gather 114 = .ok (.iload_n 1, 1) := by decide +kernel
theorem dX2_gather_115 : decode cX2_gather 115 = .ok (.iaload, 1) := by decide +kernel
theorem dX2_gather_116 : decode cX2_gather 116 = .ok (.dup2, 1) := by decide +kernel
theorem dX2_gather_117 : decode cX2_gather 117 = .ok (.iaload, 1) := by decide +kernel
theorem dX2_gather_118 : decode cX2_gather 118 = .ok (.iconst 1, 1) := by decide +kernel
theorem dX2_gather_119 : decode cX2_gather 119 = .ok (.aload_n 0, 1) := by decide +kernel
theorem dX2_gather_120 : decode cX2_gather 120 = .ok (.getfield 15, 3) := by decide +kernel
theorem dX2_gather_123 : decode cX2_gather 123 = .ok (.iload_n 1, 1) := by decide +kernel
theorem dX2_gather_124 : decode cX2_gather 124 = .ok (.iaload, 1) := by decide +kernel
theorem dX2_gather_125 : decode cX2_gather 125 = .ok (.ishl, 1) := by decide +kernel
theorem dX2_gather_126 : decode cX2_gather 126 = .ok (.ior, 1) := by decide +kernel
theorem dX2_gather_127 : decode cX2_gather 127 = .ok (.iastore, 1) := by decide +kernel
theorem dX2_gather_128 : decode cX2_gather 128 = .ok (.aload_n 0, 1) := by decide +kernel
theorem dX2_gather_129 : decode cX2_gather 129 = .ok (.getfield 22, 3) := by decide +kernel
theorem dX2_gather_132 : decode cX2_gather 132 = .ok (.iload_n 1, 1) := by decide +kernel
theorem dX2_gather_133 : decode cX2_gather 133 = .ok (.iaload, 1) := by decide +kernel
theorem dX2_gather_134 : decode cX2_gather 134 = .ok (.iconst 2, 1) := by decide +kernel
theorem dX2_gather_135 : decode cX2_gather 135 = .ok (.if_icmp .eq 20, 3) := by decide +kernel
theorem dX2_gather_138 : decode cX2_gather 138 = .ok (.aload_n 0, 1) := by decide +kernel
theorem dX2_gather_139 : decode cX2_gather 139 = .ok (.iload_n 1, 1) := by decide +kernel
theorem dX2_gather_140 : decode cX2_gather 140 = .ok (.aload_n 0, 1) := by decide +kernel
theorem dX2_gather_141 : decode cX2_gather 141 = .ok (.getfield 15, 3) := by decide +kernel
theorem dX2_gather_144 : decode cX2_gather 144 = .ok (.iload_n 1, 1) := by decide +kernel
theorem dX2_gather_145 : decode cX2_gather 145 = .ok (.iaload, 1) := by decide +kernel
theorem dX2_gather_146 : decode cX2_gather 146 = .ok (.aload_n 0, 1) := by decide +kernel
theorem dX2_gather_147 : decode cX2_gather 147 = .ok (.getfield 19, 3) := by decide +kernel
theorem dX2_gather_150 : decode cX2_gather 150 = .ok (.iload_n 1, 1) := by decide +kernel
theorem dX2_gather_151 : decode cX2_gather 151 = .ok (.iaload, 1) := by decide +kernel
theorem dX2_gather_152 : decode cX2_gather 152 = .ok (.invokevirtual 58, 3) := by decide +kernel
theorem dX2_gather_155 : decode cX2_gather 155 = .ok (.aload_n 0, 1) := by decide +kernel
theorem dX2_gather_156 : decode cX2_gather 156 = .ok (.getfield 22, 3) := by decide +kernel
theorem dX2_gather_159 : decode cX2_gather 159 = .ok (.iload_n 1, 1) := by decide +kernel
theorem dX2_gather_160 : decode cX2_gather 160 = .ok (.iaload, 1) := by decide +kernel
theorem dX2_gather_161 : decode cX2_gather 161 = .ok (.iconst 1, 1) := by decide +kernel
theorem dX2_gather_162 : decode cX2_gather 162 = .ok (.if_icmp .eq 20, 3) := by decide +kernel
theorem dX2_gather_165 : decode cX2_gather 165 = .ok (.aload_n 0, 1) := by decide +kernel
theorem dX2_gather_166 : decode cX2_gather 166 = .ok (.iload_n 1, 1) := by decide +kernel
theorem dX2_gather_167 : decode cX2_gather 167 = .ok (.aload_n 0, 1) := by decide +kernel
theorem dX2_gather_168 : decode cX2_gather 168 = .ok (.getfield 19, 3) := by decide +kernel
theorem dX2_gather_171 : decode cX2_gather 171 = .ok (.iload_n 1, 1) := by decide +kernel
theorem dX2_gather_172 : decode cX2_gather 172 = .ok (.iaload, 1) := by decide +kernel
theorem dX2_gather_173 : decode cX2_gather 173 = .ok (.aload_n 0, 1) := by decide +kernel
theorem dX2_gather_174 : decode cX2_gather 174 = .ok (.getfield 15, 3) := by decide +kernel
theorem dX2_gather_177 : decode cX2_gather 177 = .ok (.iload_n 1, 1) := by decide +kernel
theorem dX2_gather_178 : decode cX2_gather 178 = .ok (.iaload, 1) := by decide +kernel
theorem dX2_gather_179 : decode cX2_gather 179 = .ok (.invokevirtual 58, 3) := by decide +kernel
theorem dX2_gather_182 : decode cX2_gather 182 = .ok (.iinc 1 1, 3) := by decide +kernel
theorem dX2_gather_185 : decode cX2_gather 185 = .ok (.goto (-143), 3) := by decide +kernel
theorem dX2_gather_188 : decode cX2_gather 188 = .ok (.return_, 1) := by decide +kernel
theorem dX2_lead_0 : decode cX2_lead 0 = .ok (.aload_n 0, 1) := by decide +kernel
theorem dX2_lead_1 : decode cX2_lead 1 = .ok (.getfield 28, 3) := by decide +kernel
theorem dX2_lead_4 : decode cX2_lead 4 = .ok (.iload_n 2, 1) := by decide +kernel
theorem dX2_lead_5 : decode cX2_lead 5 = .ok (.dup2, 1) := by decide +kernel
theorem dX2_lead_6 : decode cX2_lead 6 = .ok (.iaload, 1) := by decide +kernel
theorem dX2_lead_7 : decode cX2_lead 7 = .ok (.iconst 1, 1) := by decide +kernel
theorem dX2_lead_8 : decode cX2_lead 8 = .ok (.iload_n 1, 1) := by decide +kernel
theorem dX2_lead_9 : decode cX2_lead 9 = .ok (.ishl, 1) := by decide +kernel
theorem dX2_lead_10 : decode cX2_lead 10 = .ok (.ior, 1) := by decide +kernel
theorem dX2_lead_11 : decode cX2_lead 11 = .ok (.iastore, 1) := by decide +kernel
theorem dX2_lead_12 : decode cX2_lead 12 = .ok (.aload_n 0, 1) := by decide +kernel
theorem dX2_lead_13 : decode cX2_lead 13 = .ok (.getfield 31, 3) := by decide +kernel
theorem dX2_lead_16 : decode cX2_lead 16 = .ok (.iload_n 3, 1) := by decide +kernel
theorem dX2_lead_17 : decode cX2_lead 17 = .ok (.dup2, 1) := by decide +kernel
theorem dX2_lead_18 : decode cX2_lead 18 = .ok (.iaload, 1) := by decide +kernel
theorem dX2_lead_19 : decode cX2_lead 19 = .ok (.iconst 1, 1) := by decide +kernel
theorem dX2_lead_20 : decode cX2_lead 20 = .ok (.iload_n 1, 1) := by decide +kernel
theorem dX2_lead_21 : decode cX2_lead 21 = .ok (.ishl, 1) := by decide +kernel
theorem dX2_lead_22 : decode cX2_lead 22 = .ok (.ior, 1) := by decide +kernel
theorem dX2_lead_23 : decode cX2_lead 23 = .ok (.iastore, 1) := by decide +kernel
theorem dX2_lead_24 : decode cX2_lead 24 = .ok (.aload_n 0, 1) := by decide +kernel
theorem dX2_lead_25 : decode cX2_lead 25 = .ok (.getfield 37, 3) := by decide +kernel
theorem dX2_lead_28 : decode cX2_lead 28 = .ok (.iload_n 2, 1) := by decide +kernel
theorem dX2_lead_29 : decode cX2_lead 29 = .ok (.dup2, 1) := by decide +kernel
theorem dX2_lead_30 : decode cX2_lead 30 = .ok (.iaload, 1) := by decide +kernel
theorem dX2_lead_31 : decode cX2_lead 31 = .ok (.iconst 1, 1) := by decide +kernel
theorem dX2_lead_32 : decode cX2_lead 32 = .ok (.iload_n 3, 1) := by decide +kernel
theorem dX2_lead_33 : decode cX2_lead 33 = .ok (.ishl, 1) := by decide +kernel
theorem dX2_lead_34 : decode cX2_lead 34 = .ok (.ior, 1) := by decide +kernel
theorem dX2_lead_35 : decode cX2_lead 35 = .ok (.iastore, 1) := by decide +kernel
theorem dX2_lead_36 : decode cX2_lead 36 = .ok (.return_, 1) := by decide +kernel
theorem dX2_degree_0 : decode cX2_degree 0 = .ok (.iload_n 2, 1) := by decide +kernel
theorem dX2_degree_1 : decode cX2_degree 1 = .ok (.ifCond .ne 13, 3) := by decide +kernel
theorem dX2_degree_4 : decode cX2_degree 4 = .ok (.aload_n 0, 1) := by decide +kernel
theorem dX2_degree_5 : decode cX2_degree 5 = .ok (.getfield 25, 3) := by decide +kernel
theorem dX2_degree_8 : decode cX2_degree 8 = .ok (.iload_n 1, 1) := by decide +kernel
theorem dX2_degree_9 : decode cX2_degree 9 = .ok (.iaload, 1) := by decide +kernel
theorem dX2_degree_10 : decode cX2_degree 10 = .ok (.invokestatic 62, 3) := by decide +kernel
theorem dX2_degree_13 : decode cX2_degree 13 = .ok (.ireturn, 1) := by decide +kernel
theorem dX2_degree_14 : decode cX2_degree 14 = .ok (.iload_n 2, 1) := by decide +kernel
theorem dX2_degree_15 : decode cX2_degree 15 = .ok (.iconst 1, 1) := by decide +kernel
theorem dX2_degree_16 : decode cX2_degree 16 = .ok (.if_icmp .ne 12, 3) := by decide +kernel
theorem dX2_degree_19 : decode cX2_degree 19 = .ok (.aload_n 0, 1) := by decide +kernel
theorem dX2_degree_20 : decode cX2_degree 20 = .ok (.getfield 28, 3) := by decide +kernel
theorem dX2_degree_23 : decode cX2_degree 23 = .ok (.iload_n 1, 1) := by decide +kernel
theorem dX2_degree_24 : decode cX2_degree 24 = .ok (.iaload, 1) := by decide +kernel
theorem dX2_degree_25 : decode cX2_degree 25 = .ok (.goto 9, 3) := by decide +kernel
theorem dX2_degree_28 : decode cX2_degree 28 = .ok (.aload_n 0, 1) := by decide +kernel
theorem dX2_degree_29 : decode cX2_degree 29 = .ok (.getfield 31, 3) := by decide +kernel
theorem dX2_degree_32 : decode cX2_degree 32 = .ok (.iload_n 1, 1) := by decide +kernel
theorem dX2_degree_33 : decode cX2_degree 33 = .ok (.iaload, 1) := by decide +kernel
theorem dX2_degree_34 : decode cX2_degree 34 = .ok (.invokestatic 62, 3) := by decide +kernel
theorem dX2_degree_37 : decode cX2_degree 37 = .ok (.ireturn, 1) := by decide +kernel
theorem dX2_otherEnd_0 : decode cX2_otherEnd 0 = .ok (.aload_n 0, 1) := by decide +kernel
theorem dX2_otherEnd_1 : decode cX2_otherEnd 1 = .ok (.getfield 15, 3) := by decide +kernel
theorem dX2_otherEnd_4 : decode cX2_otherEnd 4 = .ok (.iload_n 1, 1) := by decide +kernel
theorem dX2_otherEnd_5 : decode cX2_otherEnd 5 = .ok (.iaload, 1) := by decide +kernel
theorem dX2_otherEnd_6 : decode cX2_otherEnd 6 = .ok (.aload_n 0, 1) := by decide +kernel
theorem dX2_otherEnd_7 : decode cX2_otherEnd 7 = .ok (.getfield 19, 3) := by decide +kernel
theorem dX2_otherEnd_10 : decode cX2_otherEnd 10 = .ok (.iload_n 1, 1) := by decide +kernel
theorem dX2_otherEnd_11 : decode cX2_otherEnd 11 = .ok (.iaload, 1) := by decide +kernel
theorem dX2_otherEnd_12 : decode cX2_otherEnd 12 = .ok (.ixor, 1) := by decide +kernel
theorem dX2_otherEnd_13 : decode cX2_otherEnd 13 = .ok (.iload_n 2, 1) := by decide +kernel
theorem dX2_otherEnd_14 : decode cX2_otherEnd 14 = .ok (.ixor, 1) := by decide +kernel
theorem dX2_otherEnd_15 : decode cX2_otherEnd 15 = .ok (.ireturn, 1) := by decide +kernel
theorem dX2_endsAsSet_0 : decode cX2_endsAsSet 0 = .ok (.iconst 1, 1) := by decide +kernel
theorem dX2_endsAsSet_1 : decode cX2_endsAsSet 1 = .ok (.aload_n 0, 1) := by decide +kernel
theorem dX2_endsAsSet_2 : decode cX2_endsAsSet 2 = .ok (.getfield 15, 3) := by decide +kernel
theorem dX2_endsAsSet_5 : decode cX2_endsAsSet 5 = .ok (.iload_n 1, 1) := by decide +kernel
theorem dX2_endsAsSet_6 : decode cX2_endsAsSet 6 = .ok (.iaload, 1) := by decide +kernel
theorem dX2_endsAsSet_7 : decode cX2_endsAsSet 7 = .ok (.ishl, 1) := by decide +kernel
theorem dX2_endsAsSet_8 : decode cX2_endsAsSet 8 = .ok (.iconst 1, 1) := by decide +kernel
theorem dX2_endsAsSet_9 : decode cX2_endsAsSet 9 = .ok (.aload_n 0, 1) := by decide +kernel
theorem dX2_endsAsSet_10 : decode cX2_endsAsSet 10 = .ok (.getfield 19, 3) := by decide +kernel
theorem dX2_endsAsSet_13 : decode cX2_endsAsSet 13 = .ok (.iload_n 1, 1) := by decide +kernel
theorem dX2_endsAsSet_14 : decode cX2_endsAsSet 14 = .ok (.iaload, 1) := by decide +kernel
theorem dX2_endsAsSet_15 : decode cX2_endsAsSet 15 = .ok (.ishl, 1) := by decide +kernel
theorem dX2_endsAsSet_16 : decode cX2_endsAsSet 16 = .ok (.ior, 1) := by decide +kernel
theorem dX2_endsAsSet_17 : decode cX2_endsAsSet 17 = .ok (.ireturn, 1) := by decide +kernel
theorem dX2_sideZero_0 : decode cX2_sideZero 0 = .ok (.iconst 0, 1) := by decide +kernel
theorem dX2_sideZero_1 : decode cX2_sideZero 1 = .ok (.istore_n 1, 1) := by decide +kernel
theorem dX2_sideZero_2 : decode cX2_sideZero 2 = .ok (.iconst 0, 1) := by decide +kernel
theorem dX2_sideZero_3 : decode cX2_sideZero 3 = .ok (.istore_n 2, 1) := by decide +kernel
theorem dX2_sideZero_4 : decode cX2_sideZero 4 = .ok (.iconst 0, 1) := by decide +kernel
theorem dX2_sideZero_5 : decode cX2_sideZero 5 = .ok (.istore_n 3, 1) := by decide +kernel
theorem dX2_sideZero_6 : decode cX2_sideZero 6 = .ok (.iload_n 3, 1) := by decide +kernel
theorem dX2_sideZero_7 : decode cX2_sideZero 7 = .ok (.aload_n 0, 1) := by decide +kernel
theorem dX2_sideZero_8 : decode cX2_sideZero 8 = .ok (.getfield 9, 3) := by decide +kernel
theorem dX2_sideZero_11 : decode cX2_sideZero 11 = .ok (.if_icmp .ge 59, 3) := by decide +kernel
theorem dX2_sideZero_14 : decode cX2_sideZero 14 = .ok (.iload_n 1, 1) := by decide +kernel
theorem dX2_sideZero_15 : decode cX2_sideZero 15 = .ok (.iload_n 2, 1) := by decide +kernel
theorem dX2_sideZero_16 : decode cX2_sideZero 16 = .ok (.ior, 1) := by decide +kernel
theorem dX2_sideZero_17 : decode cX2_sideZero 17 = .ok (.iload_n 3, 1) := by decide +kernel
theorem dX2_sideZero_18 : decode cX2_sideZero 18 = .ok (.ishr, 1) := by decide +kernel
theorem dX2_sideZero_19 : decode cX2_sideZero 19 = .ok (.iconst 1, 1) := by decide +kernel
theorem dX2_sideZero_20 : decode cX2_sideZero 20 = .ok (.iand, 1) := by decide +kernel
theorem dX2_sideZero_21 : decode cX2_sideZero 21 = .ok (.ifCond .ne 9, 3) := by decide +kernel
theorem dX2_sideZero_24 : decode cX2_sideZero 24 = .ok (.iload_n 1, 1) := by decide +kernel
theorem dX2_sideZero_25 : decode cX2_sideZero 25 = .ok (.iconst 1, 1) := by decide +kernel
theorem dX2_sideZero_26 : decode cX2_sideZero 26 = .ok (.iload_n 3, 1) := by decide +kernel
theorem dX2_sideZero_27 : decode cX2_sideZero 27 = .ok (.ishl, 1) := by decide +kernel
theorem dX2_sideZero_28 : decode cX2_sideZero 28 = .ok (.ior, 1) := by decide +kernel
theorem dX2_sideZero_29 : decode cX2_sideZero 29 = .ok (.istore_n 1, 1) := by decide +kernel
theorem dX2_sideZero_30 : decode cX2_sideZero 30 = .ok (.iconst 0, 1) := by decide +kernel
theorem dX2_sideZero_31 : decode cX2_sideZero 31 = .ok (.istore 4, 2) := by decide +kernel
theorem dX2_sideZero_33 : decode cX2_sideZero 33 = .ok (.iload 4, 2) := by decide +kernel
theorem dX2_sideZero_35 : decode cX2_sideZero 35 = .ok (.aload_n 0, 1) := by decide +kernel
theorem dX2_sideZero_36 : decode cX2_sideZero 36 = .ok (.getfield 9, 3) := by decide +kernel
theorem dX2_sideZero_39 : decode cX2_sideZero 39 = .ok (.if_icmp .ge 25, 3) := by decide +kernel
theorem dX2_sideZero_42 : decode cX2_sideZero 42 = .ok (.iload_n 2, 1) := by decide +kernel
theorem dX2_sideZero_43 : decode cX2_sideZero 43 = .ok (.aload_n 0, 1) := by decide +kernel
theorem dX2_sideZero_44 : decode cX2_sideZero 44 = .ok (.iload_n 1, 1) := by decide +kernel
theorem dX2_sideZero_45 : decode cX2_sideZero 45 = .ok (.invokevirtual 68, 3) := by decide +kernel
theorem dX2_sideZero_48 : decode cX2_sideZero 48 = .ok (.ior, 1) := by decide +kernel
theorem dX2_sideZero_49 : decode cX2_sideZero 49 = .ok (.istore_n 2, 1) := by decide +kernel
theorem dX2_sideZero_50 : decode cX2_sideZero 50 = .ok (.iload_n 1, 1) := by decide +kernel
theorem dX2_sideZero_51 : decode cX2_sideZero 51 = .ok (.aload_n 0, 1) := by decide +kernel
theorem dX2_sideZero_52 : decode cX2_sideZero 52 = .ok (.iload_n 2, 1) := by decide +kernel
theorem dX2_sideZero_53 : decode cX2_sideZero 53 = .ok (.invokevirtual 68, 3) := by decide +kernel
theorem dX2_sideZero_56 : decode cX2_sideZero 56 = .ok (.ior, 1) := by decide +kernel
theorem dX2_sideZero_57 : decode cX2_sideZero 57 = .ok (.istore_n 1, 1) := by decide +kernel
theorem dX2_sideZero_58 : decode cX2_sideZero 58 = .ok (.iinc 4 1, 3) := by decide +kernel
theorem dX2_sideZero_61 : decode cX2_sideZero 61 = .ok (.goto (-28), 3) := by decide +kernel
theorem dX2_sideZero_64 : decode cX2_sideZero 64 = .ok (.iinc 3 1, 3) := by decide +kernel
theorem dX2_sideZero_67 : decode cX2_sideZero 67 = .ok (.goto (-61), 3) := by decide +kernel
theorem dX2_sideZero_70 : decode cX2_sideZero 70 = .ok (.iload_n 1, 1) := by decide +kernel
theorem dX2_sideZero_71 : decode cX2_sideZero 71 = .ok (.iload_n 2, 1) := by decide +kernel
theorem dX2_sideZero_72 : decode cX2_sideZero 72 = .ok (.iand, 1) := by decide +kernel
theorem dX2_sideZero_73 : decode cX2_sideZero 73 = .ok (.ifCond .ne 7, 3) := by decide +kernel
theorem dX2_sideZero_76 : decode cX2_sideZero 76 = .ok (.iload_n 1, 1) := by decide +kernel
theorem dX2_sideZero_77 : decode cX2_sideZero 77 = .ok (.goto 4, 3) := by decide +kernel
theorem dX2_sideZero_80 : decode cX2_sideZero 80 = .ok (.iconst (-1), 1) := by decide +kernel
theorem dX2_sideZero_81 : decode cX2_sideZero 81 = .ok (.ireturn, 1) := by decide +kernel
theorem dX2_neighbours_0 : decode cX2_neighbours 0 = .ok (.iconst 0, 1) := by decide +kernel
theorem dX2_neighbours_1 : decode cX2_neighbours 1 = .ok (.istore_n 2, 1) := by decide +kernel
theorem dX2_neighbours_2 : decode cX2_neighbours 2 = .ok (.iconst 0, 1) := by decide +kernel
theorem dX2_neighbours_3 : decode cX2_neighbours 3 = .ok (.istore_n 3, 1) := by decide +kernel
theorem dX2_neighbours_4 : decode cX2_neighbours 4 = .ok (.iload_n 3, 1) := by decide +kernel
theorem dX2_neighbours_5 : decode cX2_neighbours 5 = .ok (.aload_n 0, 1) := by decide +kernel
theorem dX2_neighbours_6 : decode cX2_neighbours 6 = .ok (.getfield 9, 3) := by decide +kernel
theorem dX2_neighbours_9 : decode cX2_neighbours 9 = .ok (.if_icmp .ge 26, 3) := by decide +kernel
theorem dX2_neighbours_12 : decode cX2_neighbours 12 = .ok (.iload_n 1, 1) := by decide +kernel
theorem dX2_neighbours_13 : decode cX2_neighbours 13 = .ok (.iload_n 3, 1) := by decide +kernel
theorem dX2_neighbours_14 : decode cX2_neighbours 14 = .ok (.ishr, 1) := by decide +kernel
theorem dX2_neighbours_15 : decode cX2_neighbours 15 = .ok (.iconst 1, 1) := by decide +kernel
theorem dX2_neighbours_16 : decode cX2_neighbours 16 = .ok (.iand, 1) := by decide +kernel
theorem dX2_neighbours_17 : decode cX2_neighbours 17 = .ok (.ifCond .eq 12, 3) := by decide +kernel
theorem dX2_neighbours_20 : decode cX2_neighbours 20 = .ok (.iload_n 2, 1) := by decide +kernel
theorem dX2_neighbours_21 : decode cX2_neighbours 21 = .ok (.aload_n 0, 1) := by decide +kernel
theorem dX2_neighbours_22 : decode cX2_neighbours 22 = .ok (.getfield 34, 3) := by decide +kernel
theorem dX2_neighbours_25 : decode cX2_neighbours 25 = .ok (.iload_n 3, 1) := by decide +kernel
theorem dX2_neighbours_26 : decode cX2_neighbours 26 = .ok (.iaload, 1) := by decide +kernel
theorem dX2_neighbours_27 : decode cX2_neighbours 27 = .ok (.ior, 1) := by decide +kernel
theorem dX2_neighbours_28 : decode cX2_neighbours 28 = .ok (.istore_n 2, 1) := by decide +kernel
theorem dX2_neighbours_29 : decode cX2_neighbours 29 = .ok (.iinc 3 1, 3) := by decide +kernel
theorem dX2_neighbours_32 : decode cX2_neighbours 32 = .ok (.goto (-28), 3) := by decide +kernel
theorem dX2_neighbours_35 : decode cX2_neighbours 35 = .ok (.iload_n 2, 1) := by decide +kernel
theorem dX2_neighbours_36 : decode cX2_neighbours 36 = .ok (.ireturn, 1) := by decide +kernel
theorem dX2_isKernel_0 : decode cX2_isKernel 0 = .ok (.iconst 0, 1) := by decide +kernel
theorem dX2_isKernel_1 : decode cX2_isKernel 1 = .ok (.istore_n 2, 1) := by decide +kernel
theorem dX2_isKernel_2 : decode cX2_isKernel 2 = .ok (.iload_n 2, 1) := by decide +kernel
theorem dX2_isKernel_3 : decode cX2_isKernel 3 = .ok (.aload_n 0, 1) := by decide +kernel
theorem dX2_isKernel_4 : decode cX2_isKernel 4 = .ok (.getfield 9, 3) := by decide +kernel
theorem dX2_isKernel_7 : decode cX2_isKernel 7 = .ok (.if_icmp .ge 49, 3) := by decide +kernel
theorem dX2_isKernel_10 : decode cX2_isKernel 10 = .ok (.iload_n 1, 1) := by decide +kernel
theorem dX2_isKernel_11 : decode cX2_isKernel 11 = .ok (.iload_n 2, 1) := by decide +kernel
theorem dX2_isKernel_12 : decode cX2_isKernel 12 = .ok (.ishr, 1) := by decide +kernel
theorem dX2_isKernel_13 : decode cX2_isKernel 13 = .ok (.iconst 1, 1) := by decide +kernel
theorem dX2_isKernel_14 : decode cX2_isKernel 14 = .ok (.iand, 1) := by decide +kernel
theorem dX2_isKernel_15 : decode cX2_isKernel 15 = .ok (.ifCond .eq 7, 3) := by decide +kernel
theorem dX2_isKernel_18 : decode cX2_isKernel 18 = .ok (.iconst 1, 1) := by decide +kernel
theorem dX2_isKernel_19 : decode cX2_isKernel 19 = .ok (.goto 4, 3) := by decide +kernel
theorem dX2_isKernel_22 : decode cX2_isKernel 22 = .ok (.iconst 0, 1) := by decide +kernel
theorem dX2_isKernel_23 : decode cX2_isKernel 23 = .ok (.istore_n 3, 1) := by decide +kernel
theorem dX2_isKernel_24 : decode cX2_isKernel 24 = .ok (.aload_n 0, 1) := by decide +kernel
theorem dX2_isKernel_25 : decode cX2_isKernel 25 = .ok (.getfield 37, 3) := by decide +kernel
theorem dX2_isKernel_28 : decode cX2_isKernel 28 = .ok (.iload_n 2, 1) := by decide +kernel
theorem dX2_isKernel_29 : decode cX2_isKernel 29 = .ok (.iaload, 1) := by decide +kernel
theorem dX2_isKernel_30 : decode cX2_isKernel 30 = .ok (.iload_n 1, 1) := by decide +kernel
theorem dX2_isKernel_31 : decode cX2_isKernel 31 = .ok (.iand, 1) := by decide +kernel
theorem dX2_isKernel_32 : decode cX2_isKernel 32 = .ok (.ifCond .eq 7, 3) := by decide +kernel
theorem dX2_isKernel_35 : decode cX2_isKernel 35 = .ok (.iconst 1, 1) := by decide +kernel
theorem dX2_isKernel_36 : decode cX2_isKernel 36 = .ok (.goto 4, 3) := by decide +kernel
theorem dX2_isKernel_39 : decode cX2_isKernel 39 = .ok (.iconst 0, 1) := by decide +kernel
theorem dX2_isKernel_40 : decode cX2_isKernel 40 = .ok (.istore 4, 2) := by decide +kernel
theorem dX2_isKernel_42 : decode cX2_isKernel 42 = .ok (.iload_n 3, 1) := by decide +kernel
theorem dX2_isKernel_43 : decode cX2_isKernel 43 = .ok (.iload 4, 2) := by decide +kernel
theorem dX2_isKernel_45 : decode cX2_isKernel 45 = .ok (.if_icmp .ne 5, 3) := by decide +kernel
theorem dX2_isKernel_48 : decode cX2_isKernel 48 = .ok (.iconst 0, 1) := by decide +kernel
theorem dX2_isKernel_49 : decode cX2_isKernel 49 = .ok (.ireturn, 1) := by decide +kernel
theorem dX2_isKernel_50 : decode cX2_isKernel 50 = .ok (.iinc 2 1, 3) := by decide +kernel
theorem dX2_isKernel_53 : decode cX2_isKernel 53 = .ok (.goto (-51), 3) := by decide +kernel
theorem dX2_isKernel_56 : decode cX2_isKernel 56 = .ok (.iconst 1, 1) := by decide +kernel
theorem dX2_isKernel_57 : decode cX2_isKernel 57 = .ok (.ireturn, 1) := by decide +kernel
theorem dX2_mostPairs_0 : decode cX2_mostPairs 0 = .ok (.aload_n 0, 1) := by decide +kernel
theorem dX2_mostPairs_1 : decode cX2_mostPairs 1 = .ok (.aload_n 0, 1) := by decide +kernel
theorem dX2_mostPairs_2 : decode cX2_mostPairs 2 = .ok (.getfield 40, 3) := by decide +kernel
theorem dX2_mostPairs_5 : decode cX2_mostPairs 5 = .ok (.iload_n 1, 1) := by decide +kernel
theorem dX2_mostPairs_6 : decode cX2_mostPairs 6 = .ok (.invokevirtual 71, 3) := by decide +kernel
theorem dX2_mostPairs_9 : decode cX2_mostPairs 9 = .ok (.ireturn, 1) := by decide +kernel
theorem dX2_pairsAmong_0 : decode cX2_pairsAmong 0 = .ok (.iload_n 1, 1) := by decide +kernel
theorem dX2_pairsAmong_1 : decode cX2_pairsAmong 1 = .ok (.iconst 1, 1) := by decide +kernel
theorem dX2_pairsAmong_2 : decode cX2_pairsAmong 2 = .ok (.if_icmp .lt 19, 3) := by decide +kernel
theorem dX2_pairsAmong_5 : decode cX2_pairsAmong 5 = .ok (.iload_n 1, 1) := by decide +kernel
theorem dX2_pairsAmong_6 : decode cX2_pairsAmong 6 = .ok (.aload_n 0, 1) := by decide +kernel
theorem dX2_pairsAmong_7 : decode cX2_pairsAmong 7 = .ok (.getfield 40, 3) := by decide +kernel
theorem dX2_pairsAmong_10 : decode cX2_pairsAmong 10 = .ok (.if_icmp .gt 11, 3) := by decide +kernel
theorem dX2_pairsAmong_13 : decode cX2_pairsAmong 13 = .ok (.iload_n 2, 1) := by decide +kernel
theorem dX2_pairsAmong_14 : decode cX2_pairsAmong 14 = .ok (.invokestatic 62, 3) := by decide +kernel
theorem dX2_pairsAmong_17 : decode cX2_pairsAmong 17 = .ok (.iconst 2, 1) := by decide +kernel
theorem dX2_pairsAmong_18 : decode cX2_pairsAmong 18 = .ok (.if_icmp .ge 5, 3) := by decide +kernel
theorem dX2_pairsAmong_21 : decode cX2_pairsAmong 21 = .ok (.iconst 0, 1) := by decide +kernel
theorem dX2_pairsAmong_22 : decode cX2_pairsAmong 22 = .ok (.ireturn, 1) := by decide +kernel
theorem dX2_pairsAmong_23 : decode cX2_pairsAmong 23 = .ok (.aload_n 0, 1) := by decide +kernel
theorem dX2_pairsAmong_24 : decode cX2_pairsAmong 24 = .ok (.iload_n 1, 1) := by decide +kernel
theorem dX2_pairsAmong_25 : decode cX2_pairsAmong 25 = .ok (.iconst 1, 1) := by decide +kernel
theorem dX2_pairsAmong_26 : decode cX2_pairsAmong 26 = .ok (.isub, 1) := by decide +kernel
theorem dX2_pairsAmong_27 : decode cX2_pairsAmong 27 = .ok (.invokevirtual 75, 3) := by decide +kernel
theorem dX2_pairsAmong_30 : decode cX2_pairsAmong 30 = .ok (.istore_n 3, 1) := by decide +kernel
theorem dX2_pairsAmong_31 : decode cX2_pairsAmong 31 = .ok (.iload_n 2, 1) := by decide +kernel
theorem dX2_pairsAmong_32 : decode cX2_pairsAmong 32 = .ok (.iload_n 3, 1) := by decide +kernel
theorem dX2_pairsAmong_33 : decode cX2_pairsAmong 33 = .ok (.iand, 1) := by decide +kernel
theorem dX2_pairsAmong_34 : decode cX2_pairsAmong 34 = .ok (.iload_n 3, 1) := by decide +kernel
theorem dX2_pairsAmong_35 : decode cX2_pairsAmong 35 = .ok (.if_icmp .eq 12, 3) := by decide +kernel
theorem dX2_pairsAmong_38 : decode cX2_pairsAmong 38 = .ok (.aload_n 0, 1) := by decide +kernel
theorem dX2_pairsAmong_39 : decode cX2_pairsAmong 39 = .ok (.iload_n 1, 1) := by decide +kernel
theorem dX2_pairsAmong_40 : decode cX2_pairsAmong 40 = .ok (.iconst 1, 1) := by decide +kernel
theorem dX2_pairsAmong_41 : decode cX2_pairsAmong 41 = .ok (.isub, 1) := by decide +kernel
theorem dX2_pairsAmong_42 : decode cX2_pairsAmong 42 = .ok (.iload_n 2, 1) := by decide +kernel
theorem dX2_pairsAmong_43 : decode cX2_pairsAmong 43 = .ok (.invokevirtual 71, 3) := by decide +kernel
theorem dX2_pairsAmong_46 : decode cX2_pairsAmong 46 = .ok (.ireturn, 1) := by decide +kernel
theorem dX2_pairsAmong_47 : decode cX2_pairsAmong 47 = .ok (.iconst 1, 1) := by decide +kernel
theorem dX2_pairsAmong_48 : decode cX2_pairsAmong 48 = .ok (.aload_n 0, 1) := by decide +kernel
theorem dX2_pairsAmong_49 : decode cX2_pairsAmong 49 = .ok (.iload_n 1, 1) := by decide +kernel
theorem dX2_pairsAmong_50 : decode cX2_pairsAmong 50 = .ok (.iconst 1, 1) := by decide +kernel
theorem dX2_pairsAmong_51 : decode cX2_pairsAmong 51 = .ok (.isub, 1) := by decide +kernel
theorem dX2_pairsAmong_52 : decode cX2_pairsAmong 52 = .ok (.iload_n 2, 1) := by decide +kernel
theorem dX2_pairsAmong_53 : decode cX2_pairsAmong 53 = .ok (.iload_n 3, 1) := by decide +kernel
theorem dX2_pairsAmong_54 : decode cX2_pairsAmong 54 = .ok (.iconst (-1), 1) := by decide +kernel
theorem dX2_pairsAmong_55 : decode cX2_pairsAmong 55 = .ok (.ixor, 1) := by decide +kernel
theorem dX2_pairsAmong_56 : decode cX2_pairsAmong 56 = .ok (.iand, 1) := by decide +kernel
theorem dX2_pairsAmong_57 : decode cX2_pairsAmong 57 = .ok (.invokevirtual 71, 3) := by decide +kernel
theorem dX2_pairsAmong_60 : decode cX2_pairsAmong 60 = .ok (.iadd, 1) := by decide +kernel
theorem dX2_pairsAmong_61 : decode cX2_pairsAmong 61 = .ok (.istore 4, 2) := by decide +kernel
theorem dX2_pairsAmong_63 : decode cX2_pairsAmong 63 = .ok (.iload 4, 2) := by decide +kernel
theorem dX2_pairsAmong_65 : decode cX2_pairsAmong 65 = .ok (.iload_n 2, 1) := by decide +kernel
theorem dX2_pairsAmong_66 : decode cX2_pairsAmong 66 = .ok (.invokestatic 62, 3) := by decide +kernel
theorem dX2_pairsAmong_69 : decode cX2_pairsAmong 69 = .ok (.iconst 2, 1) := by decide +kernel
theorem dX2_pairsAmong_70 : decode cX2_pairsAmong 70 = .ok (.idiv, 1) := by decide +kernel
theorem dX2_pairsAmong_71 : decode cX2_pairsAmong 71 = .ok (.if_icmp .ne 7, 3) := by decide +kernel
theorem dX2_pairsAmong_74 : decode cX2_pairsAmong 74 = .ok (.iconst 1, 1) := by decide +kernel
theorem dX2_pairsAmong_75 : decode cX2_pairsAmong 75 = .ok (.goto 4, 3) := by decide +kernel
theorem dX2_pairsAmong_78 : decode cX2_pairsAmong 78 = .ok (.iconst 0, 1) := by decide +kernel
theorem dX2_pairsAmong_79 : decode cX2_pairsAmong 79 = .ok (.istore 5, 2) := by decide +kernel
theorem dX2_pairsAmong_81 : decode cX2_pairsAmong 81 = .ok (.iload 5, 2) := by decide +kernel
theorem dX2_pairsAmong_83 : decode cX2_pairsAmong 83 = .ok (.ifCond .eq 8, 3) := by decide +kernel
theorem dX2_pairsAmong_86 : decode cX2_pairsAmong 86 = .ok (.iload 4, 2) := by decide +kernel
theorem dX2_pairsAmong_88 : decode cX2_pairsAmong 88 = .ok (.goto 16, 3) := by decide +kernel
theorem dX2_pairsAmong_91 : decode cX2_pairsAmong 91 = .ok (.iload 4, 2) := by decide +kernel
theorem dX2_pairsAmong_93 : decode cX2_pairsAmong 93 = .ok (.aload_n 0, 1) := by decide +kernel
theorem dX2_pairsAmong_94 : decode cX2_pairsAmong 94 = .ok (.iload_n 1, 1) := by decide +kernel
theorem dX2_pairsAmong_95 : decode cX2_pairsAmong 95 = .ok (.iconst 1, 1) := by decide +kernel
theorem dX2_pairsAmong_96 : decode cX2_pairsAmong 96 = .ok (.isub, 1) := by decide +kernel
theorem dX2_pairsAmong_97 : decode cX2_pairsAmong 97 = .ok (.iload_n 2, 1) := by decide +kernel
theorem dX2_pairsAmong_98 : decode cX2_pairsAmong 98 = .ok (.invokevirtual 71, 3) := by decide +kernel
theorem dX2_pairsAmong_101 : decode cX2_pairsAmong 101 = .ok (.invokestatic 78, 3) := by decide +kernel
theorem dX2_pairsAmong_104 : decode cX2_pairsAmong 104 = .ok (.ireturn, 1) := by decide +kernel
theorem dX2_leastPairing_0 : decode cX2_leastPairing 0 = .ok (.iconst 0, 1) := by decide +kernel
theorem dX2_leastPairing_1 : decode cX2_leastPairing 1 = .ok (.istore_n 2, 1) := by decide +kernel
theorem dX2_leastPairing_2 : decode cX2_leastPairing 2 = .ok (.iload_n 1, 1) := by decide +kernel
theorem dX2_leastPairing_3 : decode cX2_leastPairing 3 = .ok (.istore_n 3, 1) := by decide +kernel
theorem dX2_leastPairing_4 : decode cX2_leastPairing 4 = .ok (.aload_n 0, 1) := by decide +kernel
theorem dX2_leastPairing_5 : decode cX2_leastPairing 5 = .ok (.aload_n 0, 1) := by decide +kernel
theorem dX2_leastPairing_6 : decode cX2_leastPairing 6 = .ok (.getfield 40, 3) := by decide +kernel
theorem dX2_leastPairing_9 : decode cX2_leastPairing 9 = .ok (.iload_n 3, 1) := by decide +kernel
theorem dX2_leastPairing_10 : decode cX2_leastPairing 10 = .ok (.invokevirtual 71, 3) := by decide +kernel
theorem dX2_leastPairing_13 : decode cX2_leastPairing 13 = .ok (.istore 4, 2) := by decide +kernel
theorem dX2_leastPairing_15 : decode cX2_leastPairing 15 = .ok (.aload_n 0, 1) := by decide +kernel
theorem dX2_leastPairing_16 : decode cX2_leastPairing 16 = .ok (.getfield 40, 3) := by decide +kernel
theorem dX2_leastPairing_19 : decode cX2_leastPairing 19 = .ok (.iconst 1, 1) := by decide +kernel
theorem dX2_leastPairing_20 : decode cX2_leastPairing 20 = .ok (.isub, 1) := by decide +kernel
theorem dX2_leastPairing_21 : decode cX2_leastPairing 21 = .ok (.istore 5, 2) := by decide +kernel
theorem dX2_leastPairing_23 : decode cX2_leastPairing 23 = .ok (.iload 5, 2) := by decide +kernel
theorem dX2_leastPairing_25 : decode cX2_leastPairing 25 = .ok (.ifCond .lt 47, 3) := by decide +kernel
theorem dX2_leastPairing_28 : decode cX2_leastPairing 28 = .ok (.iload 4, 2) := by decide +kernel
theorem dX2_leastPairing_30 : decode cX2_leastPairing 30 = .ok (.ifCond .le 42, 3) := by decide +kernel
theorem dX2_leastPairing_33 : decode cX2_leastPairing 33 = .ok (.aload_n 0, 1) := by decide +kernel
theorem dX2_leastPairing_34 : decode cX2_leastPairing 34 = .ok (.iload 5, 2) := by decide +kernel
theorem dX2_leastPairing_36 : decode cX2_leastPairing 36 = .ok (.iload_n 3, 1) := by decide +kernel
theorem dX2_leastPairing_37 : decode cX2_leastPairing 37 = .ok (.invokevirtual 71, 3) := by decide +kernel
theorem dX2_leastPairing_40 : decode cX2_leastPairing 40 = .ok (.iload 4, 2) := by decide +kernel
theorem dX2_leastPairing_42 : decode cX2_leastPairing 42 = .ok (.if_icmp .ge 24, 3) := by decide +kernel
theorem dX2_leastPairing_45 : decode cX2_leastPairing 45 = .ok (.iload_n 2, 1) := by decide +kernel
theorem dX2_leastPairing_46 : decode cX2_leastPairing 46 = .ok (.iconst 1, 1) := by decide +kernel
theorem dX2_leastPairing_47 : decode cX2_leastPairing 47 = .ok (.iload 5, 2) := by decide +kernel
theorem dX2_leastPairing_49 : decode cX2_leastPairing 49 = .ok (.ishl, 1) := by decide +kernel
theorem dX2_leastPairing_50 : decode cX2_leastPairing 50 = .ok (.ior, 1) := by decide +kernel
theorem dX2_leastPairing_51 : decode cX2_leastPairing 51 = .ok (.istore_n 2, 1) := by decide +kernel
theorem dX2_leastPairing_52 : decode cX2_leastPairing 52 = .ok (.iload_n 3, 1) := by decide +kernel
theorem dX2_leastPairing_53 : decode cX2_leastPairing 53 = .ok (.aload_n 0, 1) := by decide +kernel
theorem dX2_leastPairing_54 : decode cX2_leastPairing 54 = .ok (.iload 5, 2) := by decide +kernel
theorem dX2_leastPairing_56 : decode cX2_leastPairing 56 = .ok (.invokevirtual 75, 3) := by decide +kernel
theorem dX2_leastPairing_59 : decode cX2_leastPairing 59 = .ok (.iconst (-1), 1) := by decide +kernel
theorem dX2_leastPairing_60 : decode cX2_leastPairing 60 = .ok (.ixor, 1) := by decide +kernel
theorem dX2_leastPairing_61 : decode cX2_leastPairing 61 = .ok (.iand, 1) := by decide +kernel
theorem dX2_leastPairing_62 : decode cX2_leastPairing 62 = .ok (.istore_n 3, 1) := by decide +kernel
theorem dX2_leastPairing_63 : decode cX2_leastPairing 63 = .ok (.iinc 4 (-1), 3) := by decide +kernel
theorem dX2_leastPairing_66 : decode cX2_leastPairing 66 = .ok (.iinc 5 (-1), 3) := by decide +kernel
theorem dX2_leastPairing_69 : decode cX2_leastPairing 69 = .ok (.goto (-46), 3) := by decide +kernel
theorem dX2_leastPairing_72 : decode cX2_leastPairing 72 = .ok (.iload_n 2, 1) := by decide +kernel
theorem dX2_leastPairing_73 : decode cX2_leastPairing 73 = .ok (.ireturn, 1) := by decide +kernel
theorem dX2_neededPoints_0 : decode cX2_neededPoints 0 = .ok (.aload_n 0, 1) := by decide +kernel
theorem dX2_neededPoints_1 : decode cX2_neededPoints 1 = .ok (.aload_n 0, 1) := by decide +kernel
theorem dX2_neededPoints_2 : decode cX2_neededPoints 2 = .ok (.invokevirtual 83, 3) := by decide +kernel
theorem dX2_neededPoints_5 : decode cX2_neededPoints 5 = .ok (.invokevirtual 87, 3) := by decide +kernel
theorem dX2_neededPoints_8 : decode cX2_neededPoints 8 = .ok (.istore_n 1, 1) := by decide +kernel
theorem dX2_neededPoints_9 : decode cX2_neededPoints 9 = .ok (.iconst 0, 1) := by decide +kernel
theorem dX2_neededPoints_10 : decode cX2_neededPoints 10 = .ok (.istore_n 2, 1) := by decide +kernel
theorem dX2_neededPoints_11 : decode cX2_neededPoints 11 = .ok (.iconst 0, 1) := by decide +kernel
theorem dX2_neededPoints_12 : decode cX2_neededPoints 12 = .ok (.istore_n 3, 1) := by decide +kernel
theorem dX2_neededPoints_13 : decode cX2_neededPoints 13 = .ok (.iload_n 3, 1) := by decide +kernel
theorem dX2_neededPoints_14 : decode cX2_neededPoints 14 = .ok (.aload_n 0, 1) := by decide +kernel
theorem dX2_neededPoints_15 : decode cX2_neededPoints 15 = .ok (.getfield 9, 3) := by decide +kernel
theorem dX2_neededPoints_18 : decode cX2_neededPoints 18 = .ok (.if_icmp .ge 33, 3) := by decide +kernel
theorem dX2_neededPoints_21 : decode cX2_neededPoints 21 = .ok (.aload_n 0, 1) := by decide +kernel
theorem dX2_neededPoints_22 : decode cX2_neededPoints 22 = .ok (.aload_n 0, 1) := by decide +kernel
theorem dX2_neededPoints_23 : decode cX2_neededPoints 23 = .ok (.invokevirtual 83, 3) := by decide +kernel
theorem dX2_neededPoints_26 : decode cX2_neededPoints 26 = .ok (.iconst 1, 1) := by decide +kernel
theorem dX2_neededPoints_27 : decode cX2_neededPoints 27 = .ok (.iload_n 3, 1) := by decide +kernel
theorem dX2_neededPoints_28 : decode cX2_neededPoints 28 = .ok (.ishl, 1) := by decide +kernel
theorem dX2_neededPoints_29 : decode cX2_neededPoints 29 = .ok (.iconst (-1), 1) := by decide +kernel
theorem dX2_neededPoints_30 : decode cX2_neededPoints 30 = .ok (.ixor, 1) := by decide +kernel
theorem dX2_neededPoints_31 : decode cX2_neededPoints 31 = .ok (.iand, 1) := by decide +kernel
theorem dX2_neededPoints_32 : decode cX2_neededPoints 32 = .ok (.invokevirtual 87, 3) := by decide +kernel
theorem dX2_neededPoints_35 : decode cX2_neededPoints 35 = .ok (.iload_n 1, 1) := by decide +kernel
theorem dX2_neededPoints_36 : decode cX2_neededPoints 36 = .ok (.if_icmp .ge 9, 3) := by decide +kernel
theorem dX2_neededPoints_39 : decode cX2_neededPoints 39 = .ok (.iload_n 2, 1) := by decide +kernel
theorem dX2_neededPoints_40 : decode cX2_neededPoints 40 = .ok (.iconst 1, 1) := by decide +kernel
theorem dX2_neededPoints_41 : decode cX2_neededPoints 41 = .ok (.iload_n 3, 1) := by decide +kernel
theorem dX2_neededPoints_42 : decode cX2_neededPoints 42 = .ok (.ishl, 1) := by decide +kernel
theorem dX2_neededPoints_43 : decode cX2_neededPoints 43 = .ok (.ior, 1) := by decide +kernel
theorem dX2_neededPoints_44 : decode cX2_neededPoints 44 = .ok (.istore_n 2, 1) := by decide +kernel
theorem dX2_neededPoints_45 : decode cX2_neededPoints 45 = .ok (.iinc 3 1, 3) := by decide +kernel
theorem dX2_neededPoints_48 : decode cX2_neededPoints 48 = .ok (.goto (-35), 3) := by decide +kernel
theorem dX2_neededPoints_51 : decode cX2_neededPoints 51 = .ok (.iload_n 2, 1) := by decide +kernel
theorem dX2_neededPoints_52 : decode cX2_neededPoints 52 = .ok (.ireturn, 1) := by decide +kernel
theorem dX3_init_0 : decode cX3_init 0 = .ok (.aload_n 0, 1) := by decide +kernel
theorem dX3_init_1 : decode cX3_init 1 = .ok (.invokespecial 3, 3) := by decide +kernel
theorem dX3_init_4 : decode cX3_init 4 = .ok (.aload_n 0, 1) := by decide +kernel
theorem dX3_init_5 : decode cX3_init 5 = .ok (.iconst 1, 1) := by decide +kernel
theorem dX3_init_6 : decode cX3_init 6 = .ok (.putfield 9, 3) := by decide +kernel
theorem dX3_init_9 : decode cX3_init 9 = .ok (.aload_n 0, 1) := by decide +kernel
theorem dX3_init_10 : decode cX3_init 10 = .ok (.aload_n 1, 1) := by decide +kernel
theorem dX3_init_11 : decode cX3_init 11 = .ok (.putfield 15, 3) := by decide +kernel
theorem dX3_init_14 : decode cX3_init 14 = .ok (.aload_n 0, 1) := by decide +kernel
theorem dX3_init_15 : decode cX3_init 15 = .ok (.aload_n 2, 1) := by decide +kernel
theorem dX3_init_16 : decode cX3_init 16 = .ok (.putfield 19, 3) := by decide +kernel
theorem dX3_init_19 : decode cX3_init 19 = .ok (.return_, 1) := by decide +kernel
theorem dX3_advice_0 : decode cX3_advice 0 = .ok (.iload_n 1, 1) := by decide +kernel
theorem dX3_advice_1 : decode cX3_advice 1 = .ok (.istore 4, 2) := by decide +kernel
theorem dX3_advice_3 : decode cX3_advice 3 = .ok (.iconst 0, 1) := by decide +kernel
theorem dX3_advice_4 : decode cX3_advice 4 = .ok (.istore 5, 2) := by decide +kernel
theorem dX3_advice_6 : decode cX3_advice 6 = .ok (.iload 5, 2) := by decide +kernel
theorem dX3_advice_8 : decode cX3_advice 8 = .ok (.iconst 4, 1) := by decide +kernel
theorem dX3_advice_9 : decode cX3_advice 9 = .ok (.if_icmp .ge 41, 3) := by decide +kernel
theorem dX3_advice_12 : decode cX3_advice 12 = .ok (.iload 4, 2) := by decide +kernel
theorem dX3_advice_14 : decode cX3_advice 14 = .ok (.ifCond .le 36, 3) := by decide +kernel
theorem dX3_advice_17 : decode cX3_advice 17 = .ok (.aload_n 0, 1) := by decide +kernel
theorem dX3_advice_18 : decode cX3_advice 18 = .ok (.iload 4, 2) := by decide +kernel
theorem dX3_advice_20 : decode cX3_advice 20 = .ok (.bipush 10, 2) := by decide +kernel
theorem dX3_advice_22 : decode cX3_advice 22 = .ok (.irem, 1) := by decide +kernel
theorem dX3_advice_23 : decode cX3_advice 23 = .ok (.iload_n 2, 1) := by decide +kernel
theorem dX3_advice_24 : decode cX3_advice 24 = .ok (.invokevirtual 23, 3) := by decide +kernel
theorem dX3_advice_27 : decode cX3_advice 27 = .ok (.istore 6, 2) := by decide +kernel
theorem dX3_advice_29 : decode cX3_advice 29 = .ok (.iload 6, 2) := by decide +kernel
theorem dX3_advice_31 : decode cX3_advice 31 = .ok (.ifCond .lt 6, 3) := by decide +kernel
theorem dX3_advice_34 : decode cX3_advice 34 = .ok (.iload 6, 2) := by decide +kernel
theorem dX3_advice_36 : decode cX3_advice 36 = .ok (.ireturn, 1) := by decide +kernel
theorem dX3_advice_37 : decode cX3_advice 37 = .ok (.iload 4, 2) := by decide +kernel
theorem dX3_advice_39 : decode cX3_advice 39 = .ok (.bipush 10, 2) := by decide +kernel
theorem dX3_advice_41 : decode cX3_advice 41 = .ok (.idiv, 1) := by decide +kernel
theorem dX3_advice_42 : decode cX3_advice 42 = .ok (.istore 4, 2) := by decide +kernel
theorem dX3_advice_44 : decode cX3_advice 44 = .ok (.iinc 5 1, 3) := by decide +kernel
theorem dX3_advice_47 : decode cX3_advice 47 = .ok (.goto (-41), 3) := by decide +kernel
theorem dX3_advice_50 : decode cX3_advice 50 = .ok (.iload_n 3, 1) := by decide +kernel
theorem dX3_advice_51 : decode cX3_advice 51 = .ok (.ireturn, 1) := by decide +kernel
theorem dX3_simple_0 : decode cX3_simple 0 = .ok (.aload_n 0, 1) := by decide +kernel
theorem dX3_simple_1 : decode cX3_simple 1 = .ok (.getfield 19, 3) := by decide +kernel
theorem dX3_simple_4 : decode cX3_simple 4 = .ok (.iload_n 2, 1) := by decide +kernel
theorem dX3_simple_5 : decode cX3_simple 5 = .ok (.invokevirtual 27, 3) := by decide +kernel
theorem dX3_simple_8 : decode cX3_simple 8 = .ok (.istore_n 3, 1) := by decide +kernel
theorem dX3_simple_9 : decode cX3_simple 9 = .ok (.iload_n 1, 1) := by decide +kernel
theorem dX3_simple_10 : decode cX3_simple 10 = .ok (.tableswitch 86 2 7 #[38, 43, 55, 66, 72, 79], 38) := by decide +kernel
theorem dX3_simple_48 : decode cX3_simple 48 = .ok (.iload_n 3, 1) := by decide +kernel
theorem dX3_simple_49 : decode cX3_simple 49 = .ok (.invokestatic 33, 3) := by decide +kernel
theorem dX3_simple_52 : decode cX3_simple 52 = .ok (.ireturn, 1) := by decide +kernel
theorem dX3_simple_53 : decode cX3_simple 53 = .ok (.aload_n 0, 1) := by decide +kernel
theorem dX3_simple_54 : decode cX3_simple 54 = .ok (.getfield 19, 3) := by decide +kernel
theorem dX3_simple_57 : decode cX3_simple 57 = .ok (.iload_n 2, 1) := by decide +kernel
theorem dX3_simple_58 : decode cX3_simple 58 = .ok (.invokevirtual 36, 3) := by decide +kernel
theorem dX3_simple_61 : decode cX3_simple 61 = .ok (.invokestatic 39, 3) := by decide +kernel
theorem dX3_simple_64 : decode cX3_simple 64 = .ok (.ireturn, 1) := by decide +kernel
theorem dX3_simple_65 : decode cX3_simple 65 = .ok (.iload_n 3, 1) := by decide +kernel
theorem dX3_simple_66 : decode cX3_simple 66 = .ok (.aload_n 0, 1) := by decide +kernel
theorem dX3_simple_67 : decode cX3_simple 67 = .ok (.iload_n 2, 1) := by decide +kernel
theorem dX3_simple_68 : decode cX3_simple 68 = .ok (.invokevirtual 42, 3) := by decide +kernel
theorem dX3_simple_71 : decode cX3_simple 71 = .ok (.iand, 1) := by decide +kernel
theorem dX3_simple_72 : decode cX3_simple 72 = .ok (.invokestatic 39, 3) := by decide +kernel
theorem dX3_simple_75 : decode cX3_simple 75 = .ok (.ireturn, 1) := by decide +kernel
theorem dX3_simple_76 : decode cX3_simple 76 = .ok (.aload_n 0, 1) := by decide +kernel
theorem dX3_simple_77 : decode cX3_simple 77 = .ok (.iload_n 3, 1) := by decide +kernel
theorem dX3_simple_78 : decode cX3_simple 78 = .ok (.invokevirtual 45, 3) := by decide +kernel
theorem dX3_simple_81 : decode cX3_simple 81 = .ok (.ireturn, 1) := by decide +kernel
theorem dX3_simple_82 : decode cX3_simple 82 = .ok (.aload_n 0, 1) := by decide +kernel
theorem dX3_simple_83 : decode cX3_simple 83 = .ok (.iload_n 3, 1) := by decide +kernel
theorem dX3_simple_84 : decode cX3_simple 84 = .ok (.iload_n 2, 1) := by decide +kernel
theorem dX3_simple_85 : decode cX3_simple 85 = .ok (.invokevirtual 48, 3) := by decide +kernel
theorem dX3_simple_88 : decode cX3_simple 88 = .ok (.ireturn, 1) := by decide +kernel
theorem dX3_simple_89 : decode cX3_simple 89 = .ok (.aload_n 0, 1) := by decide +kernel
theorem dX3_simple_90 : decode cX3_simple 90 = .ok (.iload_n 3, 1) := by decide +kernel
theorem dX3_simple_91 : decode cX3_simple 91 = .ok (.iload_n 2, 1) := by decide +kernel
theorem dX3_simple_92 : decode cX3_simple 92 = .ok (.invokevirtual 51, 3) := by decide +kernel
theorem dX3_simple_95 : decode cX3_simple 95 = .ok (.ireturn, 1) := by decide +kernel
theorem dX3_simple_96 : decode cX3_simple 96 = .ok (.iload_n 3, 1) := by decide +kernel
theorem dX3_simple_97 : decode cX3_simple 97 = .ok (.invokestatic 39, 3) := by decide +kernel
theorem dX3_simple_100 : decode cX3_simple 100 = .ok (.ireturn, 1) := by decide +kernel
theorem dX3_least_0 : decode cX3_least 0 = .ok (.iload_n 0, 1) := by decide +kernel
theorem dX3_least_1 : decode cX3_least 1 = .ok (.ifCond .ne 7, 3) := by decide +kernel
theorem dX3_least_4 : decode cX3_least 4 = .ok (.iconst (-1), 1) := by decide +kernel
theorem dX3_least_5 : decode cX3_least 5 = .ok (.goto 7, 3) := by decide +kernel
theorem dX3_least_8 : decode cX3_least 8 = .ok (.iload_n 0, 1) := by decide +kernel
theorem dX3_least_9 : decode cX3_least 9 = .ok (.invokestatic 54, 3) := by decide +kernel
theorem dX3_least_12 : decode cX3_least 12 = .ok (.ireturn, 1) := by decide +kernel
theorem dX3_greatest_0 : decode cX3_greatest 0 = .ok (.bipush 31, 2) := by decide +kernel
theorem dX3_greatest_2 : decode cX3_greatest 2 = .ok (.iload_n 0, 1) := by decide +kernel
theorem dX3_greatest_3 : decode cX3_greatest 3 = .ok (.invokestatic 59, 3) := by decide +kernel
theorem dX3_greatest_6 : decode cX3_greatest 6 = .ok (.isub, 1) := by decide +kernel
theorem dX3_greatest_7 : decode cX3_greatest 7 = .ok (.ireturn, 1) := by decide +kernel
theorem dX3_pairAtMarker_0 : decode cX3_pairAtMarker 0 = .ok (.iload_n 1, 1) := by decide +kernel
theorem dX3_pairAtMarker_1 : decode cX3_pairAtMarker 1 = .ok (.invokestatic 62, 3) := by decide +kernel
theorem dX3_pairAtMarker_4 : decode cX3_pairAtMarker 4 = .ok (.istore_n 2, 1) := by decide +kernel
theorem dX3_pairAtMarker_5 : decode cX3_pairAtMarker 5 = .ok (.aload_n 0, 1) := by decide +kernel
theorem dX3_pairAtMarker_6 : decode cX3_pairAtMarker 6 = .ok (.getfield 15, 3) := by decide +kernel
theorem dX3_pairAtMarker_9 : decode cX3_pairAtMarker 9 = .ok (.invokevirtual 67, 3) := by decide +kernel
theorem dX3_pairAtMarker_12 : decode cX3_pairAtMarker 12 = .ok (.iload_n 1, 1) := by decide +kernel
theorem dX3_pairAtMarker_13 : decode cX3_pairAtMarker 13 = .ok (.invokestatic 73, 3) := by decide +kernel
theorem dX3_pairAtMarker_16 : decode cX3_pairAtMarker 16 = .ok (.iconst (-1), 1) := by decide +kernel
theorem dX3_pairAtMarker_17 : decode cX3_pairAtMarker 17 = .ok (.ixor, 1) := by decide +kernel
theorem dX3_pairAtMarker_18 : decode cX3_pairAtMarker 18 = .ok (.iand, 1) := by decide +kernel
theorem dX3_pairAtMarker_19 : decode cX3_pairAtMarker 19 = .ok (.iconst 1, 1) := by decide +kernel
theorem dX3_pairAtMarker_20 : decode cX3_pairAtMarker 20 = .ok (.iload_n 2, 1) := by decide +kernel
theorem dX3_pairAtMarker_21 : decode cX3_pairAtMarker 21 = .ok (.ishl, 1) := by decide +kernel
theorem dX3_pairAtMarker_22 : decode cX3_pairAtMarker 22 = .ok (.ior, 1) := by decide +kernel
theorem dX3_pairAtMarker_23 : decode cX3_pairAtMarker 23 = .ok (.istore_n 3, 1) := by decide +kernel
theorem dX3_pairAtMarker_24 : decode cX3_pairAtMarker 24 = .ok (.aload_n 0, 1) := by decide +kernel
theorem dX3_pairAtMarker_25 : decode cX3_pairAtMarker 25 = .ok (.getfield 15, 3) := by decide +kernel
theorem dX3_pairAtMarker_28 : decode cX3_pairAtMarker 28 = .ok (.iload_n 3, 1) := by decide +kernel
theorem dX3_pairAtMarker_29 : decode cX3_pairAtMarker 29 = .ok (.invokevirtual 76, 3) := by decide +kernel
theorem dX3_pairAtMarker_32 : decode cX3_pairAtMarker 32 = .ok (.aload_n 0, 1) := by decide +kernel
theorem dX3_pairAtMarker_33 : decode cX3_pairAtMarker 33 = .ok (.getfield 15, 3) := by decide +kernel
theorem dX3_pairAtMarker_36 : decode cX3_pairAtMarker 36 = .ok (.getfield 79, 3) := by decide +kernel
theorem dX3_pairAtMarker_39 : decode cX3_pairAtMarker 39 = .ok (.iload_n 2, 1) := by decide +kernel
theorem dX3_pairAtMarker_40 : decode cX3_pairAtMarker 40 = .ok (.iaload, 1) := by decide +kernel
theorem dX3_pairAtMarker_41 : decode cX3_pairAtMarker 41 = .ok (.iand, 1) := by decide +kernel
theorem dX3_pairAtMarker_42 : decode cX3_pairAtMarker 42 = .ok (.ireturn, 1) := by decide +kernel
theorem dX3_drawn_0 : decode cX3_drawn 0 = .ok (.iload_n 1, 1) := by decide +kernel
theorem dX3_drawn_1 : decode cX3_drawn 1 = .ok (.invokestatic 83, 3) := by decide +kernel
theorem dX3_drawn_4 : decode cX3_drawn 4 = .ok (.istore_n 2, 1) := by decide +kernel
theorem dX3_drawn_5 : decode cX3_drawn 5 = .ok (.iload_n 2, 1) := by decide +kernel
theorem dX3_drawn_6 : decode cX3_drawn 6 = .ok (.ifCond .ne 5, 3) := by decide +kernel
theorem dX3_drawn_9 : decode cX3_drawn 9 = .ok (.iconst (-1), 1) := by decide +kernel
theorem dX3_drawn_10 : decode cX3_drawn 10 = .ok (.ireturn, 1) := by decide +kernel
theorem dX3_drawn_11 : decode cX3_drawn 11 = .ok (.aload_n 0, 1) := by decide +kernel
theorem dX3_drawn_12 : decode cX3_drawn 12 = .ok (.aload_n 0, 1) := by decide +kernel
theorem dX3_drawn_13 : decode cX3_drawn 13 = .ok (.getfield 9, 3) := by decide +kernel
theorem dX3_drawn_16 : decode cX3_drawn 16 = .ok (.ldc 86, 2) := by decide +kernel
theorem dX3_drawn_18 : decode cX3_drawn 18 = .ok (.imul, 1) := by decide +kernel
theorem dX3_drawn_19 : decode cX3_drawn 19 = .ok (.sipush 12345, 3) := by decide +kernel
theorem dX3_drawn_22 : decode cX3_drawn 22 = .ok (.iadd, 1) := by decide +kernel
theorem dX3_drawn_23 : decode cX3_drawn 23 = .ok (.putfield 9, 3) := by decide +kernel
theorem dX3_drawn_26 : decode cX3_drawn 26 = .ok (.iload_n 1, 1) := by decide +kernel
theorem dX3_drawn_27 : decode cX3_drawn 27 = .ok (.istore_n 3, 1) := by decide +kernel
theorem dX3_drawn_28 : decode cX3_drawn 28 = .ok (.aload_n 0, 1) := by decide +kernel
theorem dX3_drawn_29 : decode cX3_drawn 29 = .ok (.getfield 9, 3) := by decide +kernel
theorem dX3_drawn_32 : decode cX3_drawn 32 = .ok (.bipush 8, 2) := by decide +kernel
theorem dX3_drawn_34 : decode cX3_drawn 34 = .ok (.iushr, 1) := by decide +kernel
theorem dX3_drawn_35 : decode cX3_drawn 35 = .ok (.iload_n 2, 1) := by decide +kernel
theorem dX3_drawn_36 : decode cX3_drawn 36 = .ok (.irem, 1) := by decide +kernel
theorem dX3_drawn_37 : decode cX3_drawn 37 = .ok (.istore 4, 2) := by decide +kernel
theorem dX3_drawn_39 : decode cX3_drawn 39 = .ok (.iload 4, 2) := by decide +kernel
theorem dX3_drawn_41 : decode cX3_drawn 41 = .ok (.ifCond .le 15, 3) := by decide +kernel
theorem dX3_drawn_44 : decode cX3_drawn 44 = .ok (.iload_n 3, 1) := by decide +kernel
theorem dX3_drawn_45 : decode cX3_drawn 45 = .ok (.iload_n 3, 1) := by decide +kernel
theorem dX3_drawn_46 : decode cX3_drawn 46 = .ok (.iconst 1, 1) := by decide +kernel
theorem dX3_drawn_47 : decode cX3_drawn 47 = .ok (.isub, 1) := by decide +kernel
theorem dX3_drawn_48 : decode cX3_drawn 48 = .ok (.iand, 1) := by decide +kernel
theorem dX3_drawn_49 : decode cX3_drawn 49 = .ok (.istore_n 3, 1) := by decide +kernel
theorem dX3_drawn_50 : decode cX3_drawn 50 = .ok (.iinc 4 (-1), 3) := by decide +kernel
theorem dX3_drawn_53 : decode cX3_drawn 53 = .ok (.goto (-14), 3) := by decide +kernel
theorem dX3_drawn_56 : decode cX3_drawn 56 = .ok (.iload_n 3, 1) := by decide +kernel
theorem dX3_drawn_57 : decode cX3_drawn 57 = .ok (.invokestatic 39, 3) := by decide +kernel
theorem dX3_drawn_60 : decode cX3_drawn 60 = .ok (.ireturn, 1) := by decide +kernel
theorem dX3_narrowest_0 : decode cX3_narrowest 0 = .ok (.iconst (-1), 1) := by decide +kernel
theorem dX3_narrowest_1 : decode cX3_narrowest 1 = .ok (.istore_n 3, 1) := by decide +kernel
theorem dX3_narrowest_2 : decode cX3_narrowest 2 = .ok (.bipush 13, 2) := by decide +kernel
theorem dX3_narrowest_4 : decode cX3_narrowest 4 = .ok (.istore 4, 2) := by decide +kernel
theorem dX3_narrowest_6 : decode cX3_narrowest 6 = .ok (.iconst 0, 1) := by decide +kernel
theorem dX3_narrowest_7 : decode cX3_narrowest 7 = .ok (.istore 5, 2) := by decide +kernel
theorem dX3_narrowest_9 : decode cX3_narrowest 9 = .ok (.iload 5, 2) := by decide +kernel
theorem dX3_narrowest_11 : decode cX3_narrowest 11 = .ok (.aload_n 0, 1) := by decide +kernel
theorem dX3_narrowest_12 : decode cX3_narrowest 12 = .ok (.getfield 15, 3) := by decide +kernel
theorem dX3_narrowest_15 : decode cX3_narrowest 15 = .ok (.getfield 87, 3) := by decide +kernel
theorem dX3_narrowest_18 : decode cX3_narrowest 18 = .ok (.if_icmp .ge 54, 3) := by decide +kernel
theorem dX3_narrowest_21 : decode cX3_narrowest 21 = .ok (.iload_n 1, 1) := by decide +kernel
theorem dX3_narrowest_22 : decode cX3_narrowest 22 = .ok (.iload 5, 2) := by decide +kernel
theorem dX3_narrowest_24 : decode cX3_narrowest 24 = .ok (.ishr, 1) := by decide +kernel
theorem dX3_narrowest_25 : decode cX3_narrowest 25 = .ok (.iconst 1, 1) := by decide +kernel
theorem dX3_narrowest_26 : decode cX3_narrowest 26 = .ok (.iand, 1) := by decide +kernel
theorem dX3_narrowest_27 : decode cX3_narrowest 27 = .ok (.ifCond .eq 39, 3) := by decide +kernel
theorem dX3_narrowest_30 : decode cX3_narrowest 30 = .ok (.aload_n 0, 1) := by decide +kernel
theorem dX3_narrowest_31 : decode cX3_narrowest 31 = .ok (.getfield 19, 3) := by decide +kernel
theorem dX3_narrowest_34 : decode cX3_narrowest 34 = .ok (.aload_n 0, 1) := by decide +kernel
theorem dX3_narrowest_35 : decode cX3_narrowest 35 = .ok (.getfield 19, 3) := by decide +kernel
theorem dX3_narrowest_38 : decode cX3_narrowest 38 = .ok (.iload_n 2, 1) := by decide +kernel
theorem dX3_narrowest_39 : decode cX3_narrowest 39 = .ok (.iload 5, 2) := by decide +kernel
theorem dX3_narrowest_41 : decode cX3_narrowest 41 = .ok (.invokevirtual 90, 3) := by decide +kernel
theorem dX3_narrowest_44 : decode cX3_narrowest 44 = .ok (.invokevirtual 27, 3) := by decide +kernel
theorem dX3_narrowest_47 : decode cX3_narrowest 47 = .ok (.invokestatic 83, 3) := by decide +kernel
theorem dX3_narrowest_50 : decode cX3_narrowest 50 = .ok (.istore 6, 2) := by decide +kernel
theorem dX3_narrowest_52 : decode cX3_narrowest 52 = .ok (.iload 6, 2) := by decide +kernel
theorem dX3_narrowest_54 : decode cX3_narrowest 54 = .ok (.iload 4, 2) := by decide +kernel
theorem dX3_narrowest_56 : decode cX3_narrowest 56 = .ok (.if_icmp .ge 10, 3) := by decide +kernel
theorem dX3_narrowest_59 : decode cX3_narrowest 59 = .ok (.iload 6, 2) := by decide +kernel
theorem dX3_narrowest_61 : decode cX3_narrowest 61 = .ok (.istore 4, 2) := by decide +kernel
theorem dX3_narrowest_63 : decode cX3_narrowest 63 = .ok (.iload 5, 2) := by decide +kernel
theorem dX3_narrowest_65 : decode cX3_narrowest 65 = .ok (.istore_n 3, 1) := by decide +kernel
theorem dX3_narrowest_66 : decode cX3_narrowest 66 = .ok (.iinc 5 1, 3) := by decide +kernel
theorem dX3_narrowest_69 : decode cX3_narrowest 69 = .ok (.goto (-60), 3) := by decide +kernel
theorem dX3_narrowest_72 : decode cX3_narrowest 72 = .ok (.iload_n 3, 1) := by decide +kernel
theorem dX3_narrowest_73 : decode cX3_narrowest 73 = .ok (.ireturn, 1) := by decide +kernel
theorem dX3_slowest_0 : decode cX3_slowest 0 = .ok (.iconst (-1), 1) := by decide +kernel
theorem dX3_slowest_1 : decode cX3_slowest 1 = .ok (.istore_n 3, 1) := by decide +kernel
theorem dX3_slowest_2 : decode cX3_slowest 2 = .ok (.iconst (-1), 1) := by decide +kernel
theorem dX3_slowest_3 : decode cX3_slowest 3 = .ok (.istore 4, 2) := by decide +kernel
theorem dX3_slowest_5 : decode cX3_slowest 5 = .ok (.iconst 0, 1) := by decide +kernel
theorem dX3_slowest_6 : decode cX3_slowest 6 = .ok (.istore 5, 2) := by decide +kernel
theorem dX3_slowest_8 : decode cX3_slowest 8 = .ok (.iload 5, 2) := by decide +kernel
theorem dX3_slowest_10 : decode cX3_slowest 10 = .ok (.aload_n 0, 1) := by decide +kernel
theorem dX3_slowest_11 : decode cX3_slowest 11 = .ok (.getfield 15, 3) := by decide +kernel
theorem dX3_slowest_14 : decode cX3_slowest 14 = .ok (.getfield 87, 3) := by decide +kernel
theorem dX3_slowest_17 : decode cX3_slowest 17 = .ok (.if_icmp .ge 51, 3) := by decide +kernel
theorem dX3_slowest_20 : decode cX3_slowest 20 = .ok (.iload_n 1, 1) := by decide +kernel
theorem dX3_slowest_21 : decode cX3_slowest 21 = .ok (.iload 5, 2) := by decide +kernel
theorem dX3_slowest_23 : decode cX3_slowest 23 = .ok (.ishr, 1) := by decide +kernel
theorem dX3_slowest_24 : decode cX3_slowest 24 = .ok (.iconst 1, 1) := by decide +kernel
theorem dX3_slowest_25 : decode cX3_slowest 25 = .ok (.iand, 1) := by decide +kernel
theorem dX3_slowest_26 : decode cX3_slowest 26 = .ok (.ifCond .eq 36, 3) := by decide +kernel
theorem dX3_slowest_29 : decode cX3_slowest 29 = .ok (.aload_n 0, 1) := by decide +kernel
theorem dX3_slowest_30 : decode cX3_slowest 30 = .ok (.getfield 19, 3) := by decide +kernel
theorem dX3_slowest_33 : decode cX3_slowest 33 = .ok (.aload_n 0, 1) := by decide +kernel
theorem dX3_slowest_34 : decode cX3_slowest 34 = .ok (.getfield 19, 3) := by decide +kernel
theorem dX3_slowest_37 : decode cX3_slowest 37 = .ok (.iload_n 2, 1) := by decide +kernel
theorem dX3_slowest_38 : decode cX3_slowest 38 = .ok (.iload 5, 2) := by decide +kernel
theorem dX3_slowest_40 : decode cX3_slowest 40 = .ok (.invokevirtual 90, 3) := by decide +kernel
theorem dX3_slowest_43 : decode cX3_slowest 43 = .ok (.invokevirtual 93, 3) := by decide +kernel
theorem dX3_slowest_46 : decode cX3_slowest 46 = .ok (.istore 6, 2) := by decide +kernel
theorem dX3_slowest_48 : decode cX3_slowest 48 = .ok (.iload 6, 2) := by decide +kernel
theorem dX3_slowest_50 : decode cX3_slowest 50 = .ok (.iload 4, 2) := by decide +kernel
theorem dX3_slowest_52 : decode cX3_slowest 52 = .ok (.if_icmp .le 10, 3) := by decide +kernel
theorem dX3_slowest_55 : decode cX3_slowest 55 = .ok (.iload 6, 2) := by decide +kernel
theorem dX3_slowest_57 : decode cX3_slowest 57 = .ok (.istore 4, 2) := by decide +kernel
theorem dX3_slowest_59 : decode cX3_slowest 59 = .ok (.iload 5, 2) := by decide +kernel
theorem dX3_slowest_61 : decode cX3_slowest 61 = .ok (.istore_n 3, 1) := by decide +kernel
theorem dX3_slowest_62 : decode cX3_slowest 62 = .ok (.iinc 5 1, 3) := by decide +kernel
theorem dX3_slowest_65 : decode cX3_slowest 65 = .ok (.goto (-57), 3) := by decide +kernel
theorem dX3_slowest_68 : decode cX3_slowest 68 = .ok (.iload_n 3, 1) := by decide +kernel
theorem dX3_slowest_69 : decode cX3_slowest 69 = .ok (.ireturn, 1) := by decide +kernel
theorem dX4_init_0 : decode cX4_init 0 = .ok (.aload_n 0, 1) := by decide +kernel
theorem dX4_init_1 : decode cX4_init 1 = .ok (.invokespecial 3, 3) := by decide +kernel
theorem dX4_init_4 : decode cX4_init 4 = .ok (.aload_n 0, 1) := by decide +kernel
theorem dX4_init_5 : decode cX4_init 5 = .ok (.bipush 24, 2) := by decide +kernel
theorem dX4_init_7 : decode cX4_init 7 = .ok (.newarray .int, 2) := by decide +kernel
theorem dX4_init_9 : decode cX4_init 9 = .ok (.putfield 9, 3) := by decide +kernel
theorem dX4_init_12 : decode cX4_init 12 = .ok (.return_, 1) := by decide +kernel
theorem dX4_isMissing_0 : decode cX4_isMissing 0 = .ok (.aload_n 0, 1) := by decide +kernel
theorem dX4_isMissing_1 : decode cX4_isMissing 1 = .ok (.getfield 15, 3) := by decide +kernel
theorem dX4_isMissing_4 : decode cX4_isMissing 4 = .ok (.ifCond .ne 7, 3) := by decide +kernel
theorem dX4_isMissing_7 : decode cX4_isMissing 7 = .ok (.iconst 1, 1) := by decide +kernel
theorem dX4_isMissing_8 : decode cX4_isMissing 8 = .ok (.goto 4, 3) := by decide +kernel
theorem dX4_isMissing_11 : decode cX4_isMissing 11 = .ok (.iconst 0, 1) := by decide +kernel
theorem dX4_isMissing_12 : decode cX4_isMissing 12 = .ok (.ireturn, 1) := by decide +kernel
theorem dX4_renew_0 : decode cX4_renew 0 = .ok (.aload_n 0, 1) := by decide +kernel
theorem dX4_renew_1 : decode cX4_renew 1 = .ok (.iload_n 1, 1) := by decide +kernel
theorem dX4_renew_2 : decode cX4_renew 2 = .ok (.putfield 15, 3) := by decide +kernel
theorem dX4_renew_5 : decode cX4_renew 5 = .ok (.aload_n 0, 1) := by decide +kernel
theorem dX4_renew_6 : decode cX4_renew 6 = .ok (.iload_n 2, 1) := by decide +kernel
theorem dX4_renew_7 : decode cX4_renew 7 = .ok (.putfield 19, 3) := by decide +kernel
theorem dX4_renew_10 : decode cX4_renew 10 = .ok (.aload_n 0, 1) := by decide +kernel
theorem dX4_renew_11 : decode cX4_renew 11 = .ok (.getfield 9, 3) := by decide +kernel
theorem dX4_renew_14 : decode cX4_renew 14 = .ok (.iconst 0, 1) := by decide +kernel
theorem dX4_renew_15 : decode cX4_renew 15 = .ok (.invokestatic 22, 3) := by decide +kernel
theorem dX4_renew_18 : decode cX4_renew 18 = .ok (.return_, 1) := by decide +kernel
theorem dX4_write_0 : decode cX4_write 0 = .ok (.bipush 32, 2) := by decide +kernel
theorem dX4_write_2 : decode cX4_write 2 = .ok (.aload_n 0, 1) := by decide +kernel
theorem dX4_write_3 : decode cX4_write 3 = .ok (.getfield 15, 3) := by decide +kernel
theorem dX4_write_6 : decode cX4_write 6 = .ok (.isub, 1) := by decide +kernel
theorem dX4_write_7 : decode cX4_write 7 = .ok (.istore_n 3, 1) := by decide +kernel
theorem dX4_write_8 : decode cX4_write 8 = .ok (.aload_n 0, 1) := by decide +kernel
theorem dX4_write_9 : decode cX4_write 9 = .ok (.getfield 9, 3) := by decide +kernel
theorem dX4_write_12 : decode cX4_write 12 = .ok (.iload_n 1, 1) := by decide +kernel
theorem dX4_write_13 : decode cX4_write 13 = .ok (.iload_n 2, 1) := by decide +kernel
theorem dX4_write_14 : decode cX4_write 14 = .ok (.iload_n 3, 1) := by decide +kernel
theorem dX4_write_15 : decode cX4_write 15 = .ok (.ishl, 1) := by decide +kernel
theorem dX4_write_16 : decode cX4_write 16 = .ok (.iload_n 3, 1) := by decide +kernel
theorem dX4_write_17 : decode cX4_write 17 = .ok (.ishr, 1) := by decide +kernel
theorem dX4_write_18 : decode cX4_write 18 = .ok (.iastore, 1) := by decide +kernel
theorem dX4_write_19 : decode cX4_write 19 = .ok (.return_, 1) := by decide +kernel
theorem dX4_hasRun_0 : decode cX4_hasRun 0 = .ok (.iload_n 2, 1) := by decide +kernel
theorem dX4_hasRun_1 : decode cX4_hasRun 1 = .ok (.ifCond .lt 29, 3) := by decide +kernel
theorem dX4_hasRun_4 : decode cX4_hasRun 4 = .ok (.iload_n 1, 1) := by decide +kernel
theorem dX4_hasRun_5 : decode cX4_hasRun 5 = .ok (.ifCond .lt 25, 3) := by decide +kernel
theorem dX4_hasRun_8 : decode cX4_hasRun 8 = .ok (.iload_n 2, 1) := by decide +kernel
theorem dX4_hasRun_9 : decode cX4_hasRun 9 = .ok (.aload_n 0, 1) := by decide +kernel
theorem dX4_hasRun_10 : decode cX4_hasRun 10 = .ok (.getfield 19, 3) := by decide +kernel
theorem dX4_hasRun_13 : decode cX4_hasRun 13 = .ok (.if_icmp .gt 17, 3) := by decide +kernel
theorem dX4_hasRun_16 : decode cX4_hasRun 16 = .ok (.iload_n 1, 1) := by decide +kernel
theorem dX4_hasRun_17 : decode cX4_hasRun 17 = .ok (.aload_n 0, 1) := by decide +kernel
theorem dX4_hasRun_18 : decode cX4_hasRun 18 = .ok (.getfield 19, 3) := by decide +kernel
theorem dX4_hasRun_21 : decode cX4_hasRun 21 = .ok (.iload_n 2, 1) := by decide +kernel
theorem dX4_hasRun_22 : decode cX4_hasRun 22 = .ok (.isub, 1) := by decide +kernel
theorem dX4_hasRun_23 : decode cX4_hasRun 23 = .ok (.if_icmp .gt 7, 3) := by decide +kernel
theorem dX4_hasRun_26 : decode cX4_hasRun 26 = .ok (.iconst 1, 1) := by decide +kernel
theorem dX4_hasRun_27 : decode cX4_hasRun 27 = .ok (.goto 4, 3) := by decide +kernel
theorem dX4_hasRun_30 : decode cX4_hasRun 30 = .ok (.iconst 0, 1) := by decide +kernel
theorem dX4_hasRun_31 : decode cX4_hasRun 31 = .ok (.ireturn, 1) := by decide +kernel
theorem dX5_atFirst_0 : decode cX5_atFirst 0 = .ok (.iload_n 0, 1) := by decide +kernel
theorem dX5_atFirst_1 : decode cX5_atFirst 1 = .ok (.iconst 1, 1) := by decide +kernel
theorem dX5_atFirst_2 : decode cX5_atFirst 2 = .ok (.iload_n 0, 1) := by decide +kernel
theorem dX5_atFirst_3 : decode cX5_atFirst 3 = .ok (.iconst 4, 1) := by decide +kernel
theorem dX5_atFirst_4 : decode cX5_atFirst 4 = .ok (.iadd, 1) := by decide +kernel
theorem dX5_atFirst_5 : decode cX5_atFirst 5 = .ok (.ishl, 1) := by decide +kernel
theorem dX5_atFirst_6 : decode cX5_atFirst 6 = .ok (.ior, 1) := by decide +kernel
theorem dX5_atFirst_7 : decode cX5_atFirst 7 = .ok (.ireturn, 1) := by decide +kernel
theorem dX5_marker_0 : decode cX5_marker 0 = .ok (.iload_n 0, 1) := by decide +kernel
theorem dX5_marker_1 : decode cX5_marker 1 = .ok (.bipush 15, 2) := by decide +kernel
theorem dX5_marker_3 : decode cX5_marker 3 = .ok (.iand, 1) := by decide +kernel
theorem dX5_marker_4 : decode cX5_marker 4 = .ok (.ireturn, 1) := by decide +kernel
theorem dX5_met_0 : decode cX5_met 0 = .ok (.iload_n 0, 1) := by decide +kernel
theorem dX5_met_1 : decode cX5_met 1 = .ok (.iconst 4, 1) := by decide +kernel
theorem dX5_met_2 : decode cX5_met 2 = .ok (.iushr, 1) := by decide +kernel
theorem dX5_met_3 : decode cX5_met 3 = .ok (.sipush 1023, 3) := by decide +kernel
theorem dX5_met_6 : decode cX5_met 6 = .ok (.iand, 1) := by decide +kernel
theorem dX5_met_7 : decode cX5_met 7 = .ok (.ireturn, 1) := by decide +kernel
theorem dX5_gone_0 : decode cX5_gone 0 = .ok (.iload_n 0, 1) := by decide +kernel
theorem dX5_gone_1 : decode cX5_gone 1 = .ok (.bipush 14, 2) := by decide +kernel
theorem dX5_gone_3 : decode cX5_gone 3 = .ok (.iushr, 1) := by decide +kernel
theorem dX5_gone_4 : decode cX5_gone 4 = .ok (.sipush 4095, 3) := by decide +kernel
theorem dX5_gone_7 : decode cX5_gone 7 = .ok (.iand, 1) := by decide +kernel
theorem dX5_gone_8 : decode cX5_gone 8 = .ok (.ireturn, 1) := by decide +kernel
theorem dX5_markerAndMet_0 : decode cX5_markerAndMet 0 = .ok (.iload_n 0, 1) := by decide +kernel
theorem dX5_markerAndMet_1 : decode cX5_markerAndMet 1 = .ok (.invokestatic 9, 3) := by decide +kernel
theorem dX5_markerAndMet_4 : decode cX5_markerAndMet 4 = .ok (.istore_n 1, 1) := by decide +kernel
theorem dX5_markerAndMet_5 : decode cX5_markerAndMet 5 = .ok (.iload_n 0, 1) := by decide +kernel
theorem dX5_markerAndMet_6 : decode cX5_markerAndMet 6 = .ok (.invokestatic 13, 3) := by decide +kernel
theorem dX5_markerAndMet_9 : decode cX5_markerAndMet 9 = .ok (.istore_n 2, 1) := by decide +kernel
theorem dX5_markerAndMet_10 : decode cX5_markerAndMet 10 = .ok (.iload_n 2, 1) := by decide +kernel
theorem dX5_markerAndMet_11 : decode cX5_markerAndMet 11 = .ok (.iconst 1, 1) := by decide +kernel
theorem dX5_markerAndMet_12 : decode cX5_markerAndMet 12 = .ok (.iload_n 1, 1) := by decide +kernel
theorem dX5_markerAndMet_13 : decode cX5_markerAndMet 13 = .ok (.ishl, 1) := by decide +kernel
theorem dX5_markerAndMet_14 : decode cX5_markerAndMet 14 = .ok (.iconst 1, 1) := by decide +kernel
theorem dX5_markerAndMet_15 : decode cX5_markerAndMet 15 = .ok (.isub, 1) := by decide +kernel
theorem dX5_markerAndMet_16 : decode cX5_markerAndMet 16 = .ok (.iand, 1) := by decide +kernel
theorem dX5_markerAndMet_17 : decode cX5_markerAndMet 17 = .ok (.istore_n 3, 1) := by decide +kernel
theorem dX5_markerAndMet_18 : decode cX5_markerAndMet 18 = .ok (.iload_n 2, 1) := by decide +kernel
theorem dX5_markerAndMet_19 : decode cX5_markerAndMet 19 = .ok (.iload_n 1, 1) := by decide +kernel
theorem dX5_markerAndMet_20 : decode cX5_markerAndMet 20 = .ok (.iconst 1, 1) := by decide +kernel
theorem dX5_markerAndMet_21 : decode cX5_markerAndMet 21 = .ok (.iadd, 1) := by decide +kernel
theorem dX5_markerAndMet_22 : decode cX5_markerAndMet 22 = .ok (.iushr, 1) := by decide +kernel
theorem dX5_markerAndMet_23 : decode cX5_markerAndMet 23 = .ok (.iload_n 1, 1) := by decide +kernel
theorem dX5_markerAndMet_24 : decode cX5_markerAndMet 24 = .ok (.ishl, 1) := by decide +kernel
theorem dX5_markerAndMet_25 : decode cX5_markerAndMet 25 = .ok (.istore 4, 2) := by decide +kernel
theorem dX5_markerAndMet_27 : decode cX5_markerAndMet 27 = .ok (.iload_n 1, 1) := by decide +kernel
theorem dX5_markerAndMet_28 : decode cX5_markerAndMet 28 = .ok (.bipush 9, 2) := by decide +kernel
theorem dX5_markerAndMet_30 : decode cX5_markerAndMet 30 = .ok (.ishl, 1) := by decide +kernel
theorem dX5_markerAndMet_31 : decode cX5_markerAndMet 31 = .ok (.iload_n 3, 1) := by decide +kernel
theorem dX5_markerAndMet_32 : decode cX5_markerAndMet 32 = .ok (.iload 4, 2) := by decide +kernel
theorem dX5_markerAndMet_34 : decode cX5_markerAndMet 34 = .ok (.ior, 1) := by decide +kernel
theorem dX5_markerAndMet_35 : decode cX5_markerAndMet 35 = .ok (.sipush 511, 3) := by decide +kernel
theorem dX5_markerAndMet_38 : decode cX5_markerAndMet 38 = .ok (.iand, 1) := by decide +kernel
theorem dX5_markerAndMet_39 : decode cX5_markerAndMet 39 = .ok (.ior, 1) := by decide +kernel
theorem dX5_markerAndMet_40 : decode cX5_markerAndMet 40 = .ok (.ireturn, 1) := by decide +kernel
theorem dX5_withMarker_0 : decode cX5_withMarker 0 = .ok (.iload_n 0, 1) := by decide +kernel
theorem dX5_withMarker_1 : decode cX5_withMarker 1 = .ok (.bipush (-16), 2) := by decide +kernel
theorem dX5_withMarker_3 : decode cX5_withMarker 3 = .ok (.iand, 1) := by decide +kernel
theorem dX5_withMarker_4 : decode cX5_withMarker 4 = .ok (.iload_n 1, 1) := by decide +kernel
theorem dX5_withMarker_5 : decode cX5_withMarker 5 = .ok (.ior, 1) := by decide +kernel
theorem dX5_withMarker_6 : decode cX5_withMarker 6 = .ok (.ireturn, 1) := by decide +kernel
theorem dX5_behind_0 : decode cX5_behind 0 = .ok (.iload_n 0, 1) := by decide +kernel
theorem dX5_behind_1 : decode cX5_behind 1 = .ok (.bipush (-16), 2) := by decide +kernel
theorem dX5_behind_3 : decode cX5_behind 3 = .ok (.iand, 1) := by decide +kernel
theorem dX5_behind_4 : decode cX5_behind 4 = .ok (.iload_n 2, 1) := by decide +kernel
theorem dX5_behind_5 : decode cX5_behind 5 = .ok (.ior, 1) := by decide +kernel
theorem dX5_behind_6 : decode cX5_behind 6 = .ok (.iconst 1, 1) := by decide +kernel
theorem dX5_behind_7 : decode cX5_behind 7 = .ok (.iload_n 2, 1) := by decide +kernel
theorem dX5_behind_8 : decode cX5_behind 8 = .ok (.iconst 4, 1) := by decide +kernel
theorem dX5_behind_9 : decode cX5_behind 9 = .ok (.iadd, 1) := by decide +kernel
theorem dX5_behind_10 : decode cX5_behind 10 = .ok (.ishl, 1) := by decide +kernel
theorem dX5_behind_11 : decode cX5_behind 11 = .ok (.ior, 1) := by decide +kernel
theorem dX5_behind_12 : decode cX5_behind 12 = .ok (.iconst 1, 1) := by decide +kernel
theorem dX5_behind_13 : decode cX5_behind 13 = .ok (.iload_n 1, 1) := by decide +kernel
theorem dX5_behind_14 : decode cX5_behind 14 = .ok (.bipush 14, 2) := by decide +kernel
theorem dX5_behind_16 : decode cX5_behind 16 = .ok (.iadd, 1) := by decide +kernel
theorem dX5_behind_17 : decode cX5_behind 17 = .ok (.ishl, 1) := by decide +kernel
theorem dX5_behind_18 : decode cX5_behind 18 = .ok (.ior, 1) := by decide +kernel
theorem dX5_behind_19 : decode cX5_behind 19 = .ok (.ireturn, 1) := by decide +kernel
theorem dX6_init_0 : decode cX6_init 0 = .ok (.aload_n 0, 1) := by decide +kernel
theorem dX6_init_1 : decode cX6_init 1 = .ok (.invokespecial 3, 3) := by decide +kernel
theorem dX6_init_4 : decode cX6_init 4 = .ok (.aload_n 0, 1) := by decide +kernel
theorem dX6_init_5 : decode cX6_init 5 = .ok (.bipush 60, 2) := by decide +kernel
theorem dX6_init_7 : decode cX6_init 7 = .ok (.newarray .int, 2) := by decide +kernel
theorem dX6_init_9 : decode cX6_init 9 = .ok (.putfield 9, 3) := by decide +kernel
theorem dX6_init_12 : decode cX6_init 12 = .ok (.return_, 1) := by decide +kernel
theorem dX6_add_0 : decode cX6_add 0 = .ok (.iconst 0, 1) := by decide +kernel
theorem dX6_add_1 : decode cX6_add 1 = .ok (.istore 4, 2) := by decide +kernel
theorem dX6_add_3 : decode cX6_add 3 = .ok (.iload 4, 2) := by decide +kernel
theorem dX6_add_5 : decode cX6_add 5 = .ok (.iload_n 3, 1) := by decide +kernel
theorem dX6_add_6 : decode cX6_add 6 = .ok (.if_icmp .ge 49, 3) := by decide +kernel
theorem dX6_add_9 : decode cX6_add 9 = .ok (.aload_n 0, 1) := by decide +kernel
theorem dX6_add_10 : decode cX6_add 10 = .ok (.getfield 15, 3) := by decide +kernel
theorem dX6_add_13 : decode cX6_add 13 = .ok (.bipush 60, 2) := by decide +kernel
theorem dX6_add_15 : decode cX6_add 15 = .ok (.if_icmp .ge 40, 3) := by decide +kernel
theorem dX6_add_18 : decode cX6_add 18 = .ok (.aload_n 0, 1) := by decide +kernel
theorem dX6_add_19 : decode cX6_add 19 = .ok (.getfield 9, 3) := by decide +kernel
theorem dX6_add_22 : decode cX6_add 22 = .ok (.aload_n 0, 1) := by decide +kernel
theorem dX6_add_23 : decode cX6_add 23 = .ok (.getfield 15, 3) := by decide +kernel
theorem dX6_add_26 : decode cX6_add 26 = .ok (.lload_n 1, 1) := by decide +kernel
theorem dX6_add_27 : decode cX6_add 27 = .ok (.bipush 8, 2) := by decide +kernel
theorem dX6_add_29 : decode cX6_add 29 = .ok (.iload 4, 2) := by decide +kernel
theorem dX6_add_31 : decode cX6_add 31 = .ok (.imul, 1) := by decide +kernel
theorem dX6_add_32 : decode cX6_add 32 = .ok (.lushr, 1) := by decide +kernel
theorem dX6_add_33 : decode cX6_add 33 = .ok (.l2i, 1) := by decide +kernel
theorem dX6_add_34 : decode cX6_add 34 = .ok (.sipush 255, 3) := by decide +kernel
theorem dX6_add_37 : decode cX6_add 37 = .ok (.iand, 1) := by decide +kernel
theorem dX6_add_38 : decode cX6_add 38 = .ok (.iastore, 1) := by decide +kernel
theorem dX6_add_39 : decode cX6_add 39 = .ok (.aload_n 0, 1) := by decide +kernel
theorem dX6_add_40 : decode cX6_add 40 = .ok (.dup, 1) := by decide +kernel
theorem dX6_add_41 : decode cX6_add 41 = .ok (.getfield 15, 3) := by decide +kernel
theorem dX6_add_44 : decode cX6_add 44 = .ok (.iconst 1, 1) := by decide +kernel
theorem dX6_add_45 : decode cX6_add 45 = .ok (.iadd, 1) := by decide +kernel
theorem dX6_add_46 : decode cX6_add 46 = .ok (.putfield 15, 3) := by decide +kernel
theorem dX6_add_49 : decode cX6_add 49 = .ok (.iinc 4 1, 3) := by decide +kernel
theorem dX6_add_52 : decode cX6_add 52 = .ok (.goto (-49), 3) := by decide +kernel
theorem dX6_add_55 : decode cX6_add 55 = .ok (.return_, 1) := by decide +kernel
theorem dX6_fault_0 : decode cX6_fault 0 = .ok (.iconst 0, 1) := by decide +kernel
theorem dX6_fault_1 : decode cX6_fault 1 = .ok (.istore_n 1, 1) := by decide +kernel
theorem dX6_fault_2 : decode cX6_fault 2 = .ok (.iload_n 1, 1) := by decide +kernel
theorem dX6_fault_3 : decode cX6_fault 3 = .ok (.aload_n 0, 1) := by decide +kernel
theorem dX6_fault_4 : decode cX6_fault 4 = .ok (.getfield 15, 3) := by decide +kernel
theorem dX6_fault_7 : decode cX6_fault 7 = .ok (.if_icmp .ge 19, 3) := by decide +kernel
theorem dX6_fault_10 : decode cX6_fault 10 = .ok (.aload_n 0, 1) := by decide +kernel
theorem dX6_fault_11 : decode cX6_fault 11 = .ok (.iload_n 1, 1) := by decide +kernel
theorem dX6_fault_12 : decode cX6_fault 12 = .ok (.invokevirtual 19, 3) := by decide +kernel
theorem dX6_fault_15 : decode cX6_fault 15 = .ok (.ifCond .ne 5, 3) := by decide +kernel
theorem dX6_fault_18 : decode cX6_fault 18 = .ok (.iload_n 1, 1) := by decide +kernel
theorem dX6_fault_19 : decode cX6_fault 19 = .ok (.ireturn, 1) := by decide +kernel
theorem dX6_fault_20 : decode cX6_fault 20 = .ok (.iinc 1 1, 3) := by decide +kernel
theorem dX6_fault_23 : decode cX6_fault 23 = .ok (.goto (-21), 3) := by decide +kernel
theorem dX6_fault_26 : decode cX6_fault 26 = .ok (.aload_n 0, 1) := by decide +kernel
theorem dX6_fault_27 : decode cX6_fault 27 = .ok (.getfield 15, 3) := by decide +kernel
theorem dX6_fault_30 : decode cX6_fault 30 = .ok (.iconst 4, 1) := by decide +kernel
theorem dX6_fault_31 : decode cX6_fault 31 = .ok (.irem, 1) := by decide +kernel
theorem dX6_fault_32 : decode cX6_fault 32 = .ok (.iconst 3, 1) := by decide +kernel
theorem dX6_fault_33 : decode cX6_fault 33 = .ok (.if_icmp .ne 7, 3) := by decide +kernel
theorem dX6_fault_36 : decode cX6_fault 36 = .ok (.iconst (-1), 1) := by decide +kernel
theorem dX6_fault_37 : decode cX6_fault 37 = .ok (.goto 7, 3) := by decide +kernel
theorem dX6_fault_40 : decode cX6_fault 40 = .ok (.aload_n 0, 1) := by decide +kernel
theorem dX6_fault_41 : decode cX6_fault 41 = .ok (.getfield 15, 3) := by decide +kernel
theorem dX6_fault_44 : decode cX6_fault 44 = .ok (.ireturn, 1) := by decide +kernel
theorem dX6_fits_0 : decode cX6_fits 0 = .ok (.aload_n 0, 1) := by decide +kernel
theorem dX6_fits_1 : decode cX6_fits 1 = .ok (.getfield 9, 3) := by decide +kernel
theorem dX6_fits_4 : decode cX6_fits 4 = .ok (.iload_n 1, 1) := by decide +kernel
theorem dX6_fits_5 : decode cX6_fits 5 = .ok (.iaload, 1) := by decide +kernel
theorem dX6_fits_6 : decode cX6_fits 6 = .ok (.istore_n 2, 1) := by decide +kernel
theorem dX6_fits_7 : decode cX6_fits 7 = .ok (.iload_n 1, 1) := by decide +kernel
theorem dX6_fits_8 : decode cX6_fits 8 = .ok (.iconst 4, 1) := by decide +kernel
theorem dX6_fits_9 : decode cX6_fits 9 = .ok (.irem, 1) := by decide +kernel
theorem dX6_fits_10 : decode cX6_fits 10 = .ok (.tableswitch 96 0 2 #[26, 47, 71], 26) := by decide +kernel
theorem dX6_fits_36 : decode cX6_fits 36 = .ok (.iload_n 2, 1) := by decide +kernel
theorem dX6_fits_37 : decode cX6_fits 37 = .ok (.invokestatic 23, 3) := by decide +kernel
theorem dX6_fits_40 : decode cX6_fits 40 = .ok (.ifCond .eq 15, 3) := by decide +kernel
theorem dX6_fits_43 : decode cX6_fits 43 = .ok (.iload_n 1, 1) := by decide +kernel
theorem dX6_fits_44 : decode cX6_fits 44 = .ok (.iconst 4, 1) := by decide +kernel
theorem dX6_fits_45 : decode cX6_fits 45 = .ok (.idiv, 1) := by decide +kernel
theorem dX6_fits_46 : decode cX6_fits 46 = .ok (.bipush 12, 2) := by decide +kernel
theorem dX6_fits_48 : decode cX6_fits 48 = .ok (.if_icmp .ge 7, 3) := by decide +kernel
theorem dX6_fits_51 : decode cX6_fits 51 = .ok (.iconst 1, 1) := by decide +kernel
theorem dX6_fits_52 : decode cX6_fits 52 = .ok (.goto 4, 3) := by decide +kernel
theorem dX6_fits_55 : decode cX6_fits 55 = .ok (.iconst 0, 1) := by decide +kernel
theorem dX6_fits_56 : decode cX6_fits 56 = .ok (.ireturn, 1) := by decide +kernel
theorem dX6_fits_57 : decode cX6_fits 57 = .ok (.iload_n 2, 1) := by decide +kernel
theorem dX6_fits_58 : decode cX6_fits 58 = .ok (.bipush 45, 2) := by decide +kernel
theorem dX6_fits_60 : decode cX6_fits 60 = .ok (.if_icmp .eq 15, 3) := by decide +kernel
theorem dX6_fits_63 : decode cX6_fits 63 = .ok (.iload_n 2, 1) := by decide +kernel
theorem dX6_fits_64 : decode cX6_fits 64 = .ok (.bipush 62, 2) := by decide +kernel
theorem dX6_fits_66 : decode cX6_fits 66 = .ok (.if_icmp .eq 9, 3) := by decide +kernel
theorem dX6_fits_69 : decode cX6_fits 69 = .ok (.iload_n 2, 1) := by decide +kernel
theorem dX6_fits_70 : decode cX6_fits 70 = .ok (.bipush 60, 2) := by decide +kernel
theorem dX6_fits_72 : decode cX6_fits 72 = .ok (.if_icmp .ne 7, 3) := by decide +kernel
theorem dX6_fits_75 : decode cX6_fits 75 = .ok (.iconst 1, 1) := by decide +kernel
theorem dX6_fits_76 : decode cX6_fits 76 = .ok (.goto 4, 3) := by decide +kernel
theorem dX6_fits_79 : decode cX6_fits 79 = .ok (.iconst 0, 1) := by decide +kernel
theorem dX6_fits_80 : decode cX6_fits 80 = .ok (.ireturn, 1) := by decide +kernel
theorem dX6_fits_81 : decode cX6_fits 81 = .ok (.iload_n 2, 1) := by decide +kernel
theorem dX6_fits_82 : decode cX6_fits 82 = .ok (.invokestatic 23, 3) := by decide +kernel
theorem dX6_fits_85 : decode cX6_fits 85 = .ok (.ifCond .eq 19, 3) := by decide +kernel
theorem dX6_fits_88 : decode cX6_fits 88 = .ok (.iload_n 2, 1) := by decide +kernel
theorem dX6_fits_89 : decode cX6_fits 89 = .ok (.aload_n 0, 1) := by decide +kernel
theorem dX6_fits_90 : decode cX6_fits 90 = .ok (.getfield 9, 3) := by decide +kernel
theorem dX6_fits_93 : decode cX6_fits 93 = .ok (.iload_n 1, 1) := by decide +kernel
theorem dX6_fits_94 : decode cX6_fits 94 = .ok (.iconst 2, 1) := by decide +kernel
theorem dX6_fits_95 : decode cX6_fits 95 = .ok (.isub, 1) := by decide +kernel
theorem dX6_fits_96 : decode cX6_fits 96 = .ok (.iaload, 1) := by decide +kernel
theorem dX6_fits_97 : decode cX6_fits 97 = .ok (.if_icmp .eq 7, 3) := by decide +kernel
theorem dX6_fits_100 : decode cX6_fits 100 = .ok (.iconst 1, 1) := by decide +kernel
theorem dX6_fits_101 : decode cX6_fits 101 = .ok (.goto 4, 3) := by decide +kernel
theorem dX6_fits_104 : decode cX6_fits 104 = .ok (.iconst 0, 1) := by decide +kernel
theorem dX6_fits_105 : decode cX6_fits 105 = .ok (.ireturn, 1) := by decide +kernel
theorem dX6_fits_106 : decode cX6_fits 106 = .ok (.iload_n 2, 1) := by decide +kernel
theorem dX6_fits_107 : decode cX6_fits 107 = .ok (.bipush 44, 2) := by decide +kernel
theorem dX6_fits_109 : decode cX6_fits 109 = .ok (.if_icmp .ne 7, 3) := by decide +kernel
theorem dX6_fits_112 : decode cX6_fits 112 = .ok (.iconst 1, 1) := by decide +kernel
theorem dX6_fits_113 : decode cX6_fits 113 = .ok (.goto 4, 3) := by decide +kernel
theorem dX6_fits_116 : decode cX6_fits 116 = .ok (.iconst 0, 1) := by decide +kernel
theorem dX6_fits_117 : decode cX6_fits 117 = .ok (.ireturn, 1) := by decide +kernel
theorem dX6_isLetter_0 : decode cX6_isLetter 0 = .ok (.iload_n 0, 1) := by decide +kernel
theorem dX6_isLetter_1 : decode cX6_isLetter 1 = .ok (.bipush 97, 2) := by decide +kernel
theorem dX6_isLetter_3 : decode cX6_isLetter 3 = .ok (.if_icmp .lt 13, 3) := by decide +kernel
theorem dX6_isLetter_6 : decode cX6_isLetter 6 = .ok (.iload_n 0, 1) := by decide +kernel
theorem dX6_isLetter_7 : decode cX6_isLetter 7 = .ok (.bipush 106, 2) := by decide +kernel
theorem dX6_isLetter_9 : decode cX6_isLetter 9 = .ok (.if_icmp .gt 7, 3) := by decide +kernel
theorem dX6_isLetter_12 : decode cX6_isLetter 12 = .ok (.iconst 1, 1) := by decide +kernel
theorem dX6_isLetter_13 : decode cX6_isLetter 13 = .ok (.goto 4, 3) := by decide +kernel
theorem dX6_isLetter_16 : decode cX6_isLetter 16 = .ok (.iconst 0, 1) := by decide +kernel
theorem dX6_isLetter_17 : decode cX6_isLetter 17 = .ok (.ireturn, 1) := by decide +kernel
theorem dX6_tell_0 : decode cX6_tell 0 = .ok (.bipush 97, 2) := by decide +kernel
theorem dX6_tell_2 : decode cX6_tell 2 = .ok (.istore_n 2, 1) := by decide +kernel
theorem dX6_tell_3 : decode cX6_tell 3 = .ok (.iconst 0, 1) := by decide +kernel
theorem dX6_tell_4 : decode cX6_tell 4 = .ok (.istore_n 3, 1) := by decide +kernel
theorem dX6_tell_5 : decode cX6_tell 5 = .ok (.iload_n 3, 1) := by decide +kernel
theorem dX6_tell_6 : decode cX6_tell 6 = .ok (.aload_n 0, 1) := by decide +kernel
theorem dX6_tell_7 : decode cX6_tell 7 = .ok (.getfield 15, 3) := by decide +kernel
theorem dX6_tell_10 : decode cX6_tell 10 = .ok (.if_icmp .ge 32, 3) := by decide +kernel
theorem dX6_tell_13 : decode cX6_tell 13 = .ok (.aload_n 0, 1) := by decide +kernel
theorem dX6_tell_14 : decode cX6_tell 14 = .ok (.getfield 9, 3) := by decide +kernel
theorem dX6_tell_17 : decode cX6_tell 17 = .ok (.iload_n 3, 1) := by decide +kernel
theorem dX6_tell_18 : decode cX6_tell 18 = .ok (.iaload, 1) := by decide +kernel
theorem dX6_tell_19 : decode cX6_tell 19 = .ok (.invokestatic 23, 3) := by decide +kernel
theorem dX6_tell_22 : decode cX6_tell 22 = .ok (.ifCond .eq 14, 3) := by decide +kernel
theorem dX6_tell_25 : decode cX6_tell 25 = .ok (.iload_n 2, 1) := by decide +kernel
theorem dX6_tell_26 : decode cX6_tell 26 = .ok (.aload_n 0, 1) := by decide +kernel
theorem dX6_tell_27 : decode cX6_tell 27 = .ok (.getfield 9, 3) := by decide +kernel
theorem dX6_tell_30 : decode cX6_tell 30 = .ok (.iload_n 3, 1) := by decide +kernel
theorem dX6_tell_31 : decode cX6_tell 31 = .ok (.iaload, 1) := by decide +kernel
theorem dX6_tell_32 : decode cX6_tell 32 = .ok (.invokestatic 26, 3) := by decide +kernel
theorem dX6_tell_35 : decode cX6_tell 35 = .ok (.istore_n 2, 1) := by decide +kernel
theorem dX6_tell_36 : decode cX6_tell 36 = .ok (.iinc 3 2, 3) := by decide +kernel
theorem dX6_tell_39 : decode cX6_tell 39 = .ok (.goto (-34), 3) := by decide +kernel
theorem dX6_tell_42 : decode cX6_tell 42 = .ok (.aload_n 1, 1) := by decide +kernel
theorem dX6_tell_43 : decode cX6_tell 43 = .ok (.iload_n 2, 1) := by decide +kernel
theorem dX6_tell_44 : decode cX6_tell 44 = .ok (.bipush 97, 2) := by decide +kernel
theorem dX6_tell_46 : decode cX6_tell 46 = .ok (.isub, 1) := by decide +kernel
theorem dX6_tell_47 : decode cX6_tell 47 = .ok (.iconst 1, 1) := by decide +kernel
theorem dX6_tell_48 : decode cX6_tell 48 = .ok (.iadd, 1) := by decide +kernel
theorem dX6_tell_49 : decode cX6_tell 49 = .ok (.invokevirtual 32, 3) := by decide +kernel
theorem dX6_tell_52 : decode cX6_tell 52 = .ok (.iconst 0, 1) := by decide +kernel
theorem dX6_tell_53 : decode cX6_tell 53 = .ok (.istore_n 3, 1) := by decide +kernel
theorem dX6_tell_54 : decode cX6_tell 54 = .ok (.iload_n 3, 1) := by decide +kernel
theorem dX6_tell_55 : decode cX6_tell 55 = .ok (.iconst 2, 1) := by decide +kernel
theorem dX6_tell_56 : decode cX6_tell 56 = .ok (.iadd, 1) := by decide +kernel
theorem dX6_tell_57 : decode cX6_tell 57 = .ok (.aload_n 0, 1) := by decide +kernel
theorem dX6_tell_58 : decode cX6_tell 58 = .ok (.getfield 15, 3) := by decide +kernel
theorem dX6_tell_61 : decode cX6_tell 61 = .ok (.if_icmp .ge 44, 3) := by decide +kernel
theorem dX6_tell_64 : decode cX6_tell 64 = .ok (.aload_n 1, 1) := by decide +kernel
theorem dX6_tell_65 : decode cX6_tell 65 = .ok (.aload_n 0, 1) := by decide +kernel
theorem dX6_tell_66 : decode cX6_tell 66 = .ok (.getfield 9, 3) := by decide +kernel
theorem dX6_tell_69 : decode cX6_tell 69 = .ok (.iload_n 3, 1) := by decide +kernel
theorem dX6_tell_70 : decode cX6_tell 70 = .ok (.iaload, 1) := by decide +kernel
theorem dX6_tell_71 : decode cX6_tell 71 = .ok (.bipush 97, 2) := by decide +kernel
theorem dX6_tell_73 : decode cX6_tell 73 = .ok (.isub, 1) := by decide +kernel
theorem dX6_tell_74 : decode cX6_tell 74 = .ok (.aload_n 0, 1) := by decide +kernel
theorem dX6_tell_75 : decode cX6_tell 75 = .ok (.getfield 9, 3) := by decide +kernel
theorem dX6_tell_78 : decode cX6_tell 78 = .ok (.iload_n 3, 1) := by decide +kernel
theorem dX6_tell_79 : decode cX6_tell 79 = .ok (.iconst 2, 1) := by decide +kernel
theorem dX6_tell_80 : decode cX6_tell 80 = .ok (.iadd, 1) := by decide +kernel
theorem dX6_tell_81 : decode cX6_tell 81 = .ok (.iaload, 1) := by decide +kernel
theorem dX6_tell_82 : decode cX6_tell 82 = .ok (.bipush 97, 2) := by decide +kernel
theorem dX6_tell_84 : decode cX6_tell 84 = .ok (.isub, 1) := by decide +kernel
theorem dX6_tell_85 : decode cX6_tell 85 = .ok (.aload_n 0, 1) := by decide +kernel
theorem dX6_tell_86 : decode cX6_tell 86 = .ok (.getfield 9, 3) := by decide +kernel
theorem dX6_tell_89 : decode cX6_tell 89 = .ok (.iload_n 3, 1) := by decide +kernel
theorem dX6_tell_90 : decode cX6_tell 90 = .ok (.iconst 1, 1) := by decide +kernel
theorem dX6_tell_91 : decode cX6_tell 91 = .ok (.iadd, 1) := by decide +kernel
theorem dX6_tell_92 : decode cX6_tell 92 = .ok (.iaload, 1) := by decide +kernel
theorem dX6_tell_93 : decode cX6_tell 93 = .ok (.invokestatic 38, 3) := by decide +kernel
theorem dX6_tell_96 : decode cX6_tell 96 = .ok (.invokevirtual 42, 3) := by decide +kernel
theorem dX6_tell_99 : decode cX6_tell 99 = .ok (.iinc 3 4, 3) := by decide +kernel
theorem dX6_tell_102 : decode cX6_tell 102 = .ok (.goto (-48), 3) := by decide +kernel
theorem dX6_tell_105 : decode cX6_tell 105 = .ok (.return_, 1) := by decide +kernel
theorem dX6_wayOf_0 : decode cX6_wayOf 0 = .ok (.iload_n 0, 1) := by decide +kernel
theorem dX6_wayOf_1 : decode cX6_wayOf 1 = .ok (.bipush 62, 2) := by decide +kernel
theorem dX6_wayOf_3 : decode cX6_wayOf 3 = .ok (.if_icmp .ne 5, 3) := by decide +kernel
theorem dX6_wayOf_6 : decode cX6_wayOf 6 = .ok (.iconst 1, 1) := by decide +kernel
theorem dX6_wayOf_7 : decode cX6_wayOf 7 = .ok (.ireturn, 1) := by decide +kernel
theorem dX6_wayOf_8 : decode cX6_wayOf 8 = .ok (.iload_n 0, 1) := by decide +kernel
theorem dX6_wayOf_9 : decode cX6_wayOf 9 = .ok (.bipush 60, 2) := by decide +kernel
theorem dX6_wayOf_11 : decode cX6_wayOf 11 = .ok (.if_icmp .ne 7, 3) := by decide +kernel
theorem dX6_wayOf_14 : decode cX6_wayOf 14 = .ok (.iconst 2, 1) := by decide +kernel
theorem dX6_wayOf_15 : decode cX6_wayOf 15 = .ok (.goto 4, 3) := by decide +kernel
theorem dX6_wayOf_18 : decode cX6_wayOf 18 = .ok (.iconst 0, 1) := by decide +kernel
theorem dX6_wayOf_19 : decode cX6_wayOf 19 = .ok (.ireturn, 1) := by decide +kernel
theorem dX7_init_0 : decode cX7_init 0 = .ok (.aload_n 0, 1) := by decide +kernel
theorem dX7_init_1 : decode cX7_init 1 = .ok (.invokespecial 3, 3) := by decide +kernel
theorem dX7_init_4 : decode cX7_init 4 = .ok (.aload_n 0, 1) := by decide +kernel
theorem dX7_init_5 : decode cX7_init 5 = .ok (.sipush 300, 3) := by decide +kernel
theorem dX7_init_8 : decode cX7_init 8 = .ok (.newarray .int, 2) := by decide +kernel
theorem dX7_init_10 : decode cX7_init 10 = .ok (.putfield 9, 3) := by decide +kernel
theorem dX7_init_13 : decode cX7_init 13 = .ok (.aload_n 0, 1) := by decide +kernel
theorem dX7_init_14 : decode cX7_init 14 = .ok (.aload_n 1, 1) := by decide +kernel
theorem dX7_init_15 : decode cX7_init 15 = .ok (.putfield 15, 3) := by decide +kernel
theorem dX7_init_18 : decode cX7_init 18 = .ok (.aload_n 0, 1) := by decide +kernel
theorem dX7_init_19 : decode cX7_init 19 = .ok (.aload_n 2, 1) := by decide +kernel
theorem dX7_init_20 : decode cX7_init 20 = .ok (.putfield 19, 3) := by decide +kernel
theorem dX7_init_23 : decode cX7_init 23 = .ok (.return_, 1) := by decide +kernel
theorem dX7_build_0 : decode cX7_build 0 = .ok (.aload_n 0, 1) := by decide +kernel
theorem dX7_build_1 : decode cX7_build 1 = .ok (.iconst 0, 1) := by decide +kernel
theorem dX7_build_2 : decode cX7_build 2 = .ok (.putfield 23, 3) := by decide +kernel
theorem dX7_build_5 : decode cX7_build 5 = .ok (.aload_n 0, 1) := by decide +kernel
theorem dX7_build_6 : decode cX7_build 6 = .ok (.iconst 0, 1) := by decide +kernel
theorem dX7_build_7 : decode cX7_build 7 = .ok (.putfield 27, 3) := by decide +kernel
theorem dX7_build_10 : decode cX7_build 10 = .ok (.aload_n 0, 1) := by decide +kernel
theorem dX7_build_11 : decode cX7_build 11 = .ok (.iconst 0, 1) := by decide +kernel
theorem dX7_build_12 : decode cX7_build 12 = .ok (.putfield 30, 3) := by decide +kernel
theorem dX7_build_15 : decode cX7_build 15 = .ok (.aload_n 0, 1) := by decide +kernel
theorem dX7_build_16 : decode cX7_build 16 = .ok (.iconst 0, 1) := by decide +kernel
theorem dX7_build_17 : decode cX7_build 17 = .ok (.putfield 33, 3) := by decide +kernel
theorem dX7_build_20 : decode cX7_build 20 = .ok (.aload_n 0, 1) := by decide +kernel
theorem dX7_build_21 : decode cX7_build 21 = .ok (.iload_n 1, 1) := by decide +kernel
theorem dX7_build_22 : decode cX7_build 22 = .ok (.iconst (-1), 1) := by decide +kernel
theorem dX7_build_23 : decode cX7_build 23 = .ok (.iconst 0, 1) := by decide +kernel
theorem dX7_build_24 : decode cX7_build 24 = .ok (.invokevirtual 37, 3) := by decide +kernel
theorem dX7_build_27 : decode cX7_build 27 = .ok (.aload_n 0, 1) := by decide +kernel
theorem dX7_build_28 : decode cX7_build 28 = .ok (.getfield 33, 3) := by decide +kernel
theorem dX7_build_31 : decode cX7_build 31 = .ok (.ifCond .ne 7, 3) := by decide +kernel
theorem dX7_build_34 : decode cX7_build 34 = .ok (.iconst 1, 1) := by decide +kernel
theorem dX7_build_35 : decode cX7_build 35 = .ok (.goto 4, 3) := by decide +kernel
theorem dX7_build_38 : decode cX7_build 38 = .ok (.iconst 0, 1) := by decide +kernel
theorem dX7_build_39 : decode cX7_build 39 = .ok (.ireturn, 1) := by decide +kernel
theorem dX7_grow_0 : decode cX7_grow 0 = .ok (.aload_n 0, 1) := by decide +kernel
theorem dX7_grow_1 : decode cX7_grow 1 = .ok (.getfield 23, 3) := by decide +kernel
theorem dX7_grow_4 : decode cX7_grow 4 = .ok (.sipush 300, 3) := by decide +kernel
theorem dX7_grow_7 : decode cX7_grow 7 = .ok (.if_icmp .ge 9, 3) := by decide +kernel
theorem dX7_grow_10 : decode cX7_grow 10 = .ok (.iload_n 3, 1) := by decide +kernel
theorem dX7_grow_11 : decode cX7_grow 11 = .ok (.bipush 12, 2) := by decide +kernel
theorem dX7_grow_13 : decode cX7_grow 13 = .ok (.if_icmp .le 9, 3) := by decide +kernel
theorem dX7_grow_16 : decode cX7_grow 16 = .ok (.aload_n 0, 1) := by decide +kernel
theorem dX7_grow_17 : decode cX7_grow 17 = .ok (.iconst 1, 1) := by decide +kernel
theorem dX7_grow_18 : decode cX7_grow 18 = .ok (.putfield 33, 3) := by decide +kernel
theorem dX7_grow_21 : decode cX7_grow 21 = .ok (.return_, 1) := by decide +kernel
theorem dX7_grow_22 : decode cX7_grow 22 = .ok (.aload_n 0, 1) := by decide +kernel
theorem dX7_grow_23 : decode cX7_grow 23 = .ok (.getfield 9, 3) := by decide +kernel
theorem dX7_grow_26 : decode cX7_grow 26 = .ok (.aload_n 0, 1) := by decide +kernel
theorem dX7_grow_27 : decode cX7_grow 27 = .ok (.getfield 23, 3) := by decide +kernel
theorem dX7_grow_30 : decode cX7_grow 30 = .ok (.iload_n 2, 1) := by decide +kernel
theorem dX7_grow_31 : decode cX7_grow 31 = .ok (.iastore, 1) := by decide +kernel
theorem dX7_grow_32 : decode cX7_grow 32 = .ok (.aload_n 0, 1) := by decide +kernel
theorem dX7_grow_33 : decode cX7_grow 33 = .ok (.dup, 1) := by decide +kernel
theorem dX7_grow_34 : decode cX7_grow 34 = .ok (.getfield 23, 3) := by decide +kernel
theorem dX7_grow_37 : decode cX7_grow 37 = .ok (.iconst 1, 1) := by decide +kernel
theorem dX7_grow_38 : decode cX7_grow 38 = .ok (.iadd, 1) := by decide +kernel
theorem dX7_grow_39 : decode cX7_grow 39 = .ok (.putfield 23, 3) := by decide +kernel
theorem dX7_grow_42 : decode cX7_grow 42 = .ok (.aload_n 0, 1) := by decide +kernel
theorem dX7_grow_43 : decode cX7_grow 43 = .ok (.aload_n 0, 1) := by decide +kernel
theorem dX7_grow_44 : decode cX7_grow 44 = .ok (.getfield 30, 3) := by decide +kernel
theorem dX7_grow_47 : decode cX7_grow 47 = .ok (.iload_n 3, 1) := by decide +kernel
theorem dX7_grow_48 : decode cX7_grow 48 = .ok (.invokestatic 41, 3) := by decide +kernel
theorem dX7_grow_51 : decode cX7_grow 51 = .ok (.putfield 30, 3) := by decide +kernel
theorem dX7_grow_54 : decode cX7_grow 54 = .ok (.aload_n 0, 1) := by decide +kernel
theorem dX7_grow_55 : decode cX7_grow 55 = .ok (.getfield 19, 3) := by decide +kernel
theorem dX7_grow_58 : decode cX7_grow 58 = .ok (.iload_n 1, 1) := by decide +kernel
theorem dX7_grow_59 : decode cX7_grow 59 = .ok (.invokevirtual 47, 3) := by decide +kernel
theorem dX7_grow_62 : decode cX7_grow 62 = .ok (.istore 4, 2) := by decide +kernel
theorem dX7_grow_64 : decode cX7_grow 64 = .ok (.iload 4, 2) := by decide +kernel
theorem dX7_grow_66 : decode cX7_grow 66 = .ok (.ifCond .eq 17, 3) := by decide +kernel
theorem dX7_grow_69 : decode cX7_grow 69 = .ok (.aload_n 0, 1) := by decide +kernel
theorem dX7_grow_70 : decode cX7_grow 70 = .ok (.getfield 19, 3) := by decide +kernel
theorem dX7_grow_73 : decode cX7_grow 73 = .ok (.iload_n 1, 1) := by decide +kernel
theorem dX7_grow_74 : decode cX7_grow 74 = .ok (.invokevirtual 53, 3) := by decide +kernel
theorem dX7_grow_77 : decode cX7_grow 77 = .ok (.invokestatic 57, 3) := by decide +kernel
theorem dX7_grow_80 : decode cX7_grow 80 = .ok (.goto 11, 3) := by decide +kernel
theorem dX7_grow_83 : decode cX7_grow 83 = .ok (.aload_n 0, 1) := by decide +kernel
theorem dX7_grow_84 : decode cX7_grow 84 = .ok (.getfield 19, 3) := by decide +kernel
theorem dX7_grow_87 : decode cX7_grow 87 = .ok (.iload_n 1, 1) := by decide +kernel
theorem dX7_grow_88 : decode cX7_grow 88 = .ok (.invokevirtual 62, 3) := by decide +kernel
theorem dX7_grow_91 : decode cX7_grow 91 = .ok (.istore 5, 2) := by decide +kernel
theorem dX7_grow_93 : decode cX7_grow 93 = .ok (.iload 5, 2) := by decide +kernel
theorem dX7_grow_95 : decode cX7_grow 95 = .ok (.ifCond .ne 13, 3) := by decide +kernel
theorem dX7_grow_98 : decode cX7_grow 98 = .ok (.aload_n 0, 1) := by decide +kernel
theorem dX7_grow_99 : decode cX7_grow 99 = .ok (.dup, 1) := by decide +kernel
theorem dX7_grow_100 : decode cX7_grow 100 = .ok (.getfield 27, 3) := by decide +kernel
theorem dX7_grow_103 : decode cX7_grow 103 = .ok (.iconst 1, 1) := by decide +kernel
theorem dX7_grow_104 : decode cX7_grow 104 = .ok (.iadd, 1) := by decide +kernel
theorem dX7_grow_105 : decode cX7_grow 105 = .ok (.putfield 27, 3) := by decide +kernel
theorem dX7_grow_108 : decode cX7_grow 108 = .ok (.iconst 0, 1) := by decide +kernel
theorem dX7_grow_109 : decode cX7_grow 109 = .ok (.istore 6, 2) := by decide +kernel
theorem dX7_grow_111 : decode cX7_grow 111 = .ok (.iload 6, 2) := by decide +kernel
theorem dX7_grow_113 : decode cX7_grow 113 = .ok (.aload_n 0, 1) := by decide +kernel
theorem dX7_grow_114 : decode cX7_grow 114 = .ok (.getfield 15, 3) := by decide +kernel
theorem dX7_grow_117 : decode cX7_grow 117 = .ok (.getfield 65, 3) := by decide +kernel
theorem dX7_grow_120 : decode cX7_grow 120 = .ok (.if_icmp .ge 45, 3) := by decide +kernel
theorem dX7_grow_123 : decode cX7_grow 123 = .ok (.aload_n 0, 1) := by decide +kernel
theorem dX7_grow_124 : decode cX7_grow 124 = .ok (.getfield 33, 3) := by decide +kernel
theorem dX7_grow_127 : decode cX7_grow 127 = .ok (.ifCond .ne 38, 3) := by decide +kernel
theorem dX7_grow_130 : decode cX7_grow 130 = .ok (.iload 5, 2) := by decide +kernel
theorem dX7_grow_132 : decode cX7_grow 132 = .ok (.iload 6, 2) := by decide +kernel
theorem dX7_grow_134 : decode cX7_grow 134 = .ok (.ishr, 1) := by decide +kernel
theorem dX7_grow_135 : decode cX7_grow 135 = .ok (.iconst 1, 1) := by decide +kernel
theorem dX7_grow_136 : decode cX7_grow 136 = .ok (.iand, 1) := by decide +kernel
theorem dX7_grow_137 : decode cX7_grow 137 = .ok (.ifCond .eq 22, 3) := by decide +kernel
theorem dX7_grow_140 : decode cX7_grow 140 = .ok (.aload_n 0, 1) := by decide +kernel
theorem dX7_grow_141 : decode cX7_grow 141 = .ok (.aload_n 0, 1) := by decide +kernel
theorem dX7_grow_142 : decode cX7_grow 142 = .ok (.getfield 19, 3) := by decide +kernel
theorem dX7_grow_145 : decode cX7_grow 145 = .ok (.iload_n 1, 1) := by decide +kernel
theorem dX7_grow_146 : decode cX7_grow 146 = .ok (.iload 6, 2) := by decide +kernel
theorem dX7_grow_148 : decode cX7_grow 148 = .ok (.invokevirtual 70, 3) := by decide +kernel
theorem dX7_grow_151 : decode cX7_grow 151 = .ok (.iload 6, 2) := by decide +kernel
theorem dX7_grow_153 : decode cX7_grow 153 = .ok (.iload_n 3, 1) := by decide +kernel
theorem dX7_grow_154 : decode cX7_grow 154 = .ok (.iconst 1, 1) := by decide +kernel
theorem dX7_grow_155 : decode cX7_grow 155 = .ok (.iadd, 1) := by decide +kernel
theorem dX7_grow_156 : decode cX7_grow 156 = .ok (.invokevirtual 37, 3) := by decide +kernel
theorem dX7_grow_159 : decode cX7_grow 159 = .ok (.iinc 6 1, 3) := by decide +kernel
theorem dX7_grow_162 : decode cX7_grow 162 = .ok (.goto (-51), 3) := by decide +kernel
theorem dX7_grow_165 : decode cX7_grow 165 = .ok (.return_, 1) := by decide +kernel
theorem dX8_init_0 : decode cX8_init 0 = .ok (.aload_n 0, 1) := by decide +kernel
theorem dX8_init_1 : decode cX8_init 1 = .ok (.invokespecial 1, 3) := by decide +kernel
theorem dX8_init_4 : decode cX8_init 4 = .ok (.aload_n 0, 1) := by decide +kernel
theorem dX8_init_5 : decode cX8_init 5 = .ok (.new 7, 3) := by decide +kernel
theorem dX8_init_8 : decode cX8_init 8 = .ok (.dup, 1) := by decide +kernel
theorem dX8_init_9 : decode cX8_init 9 = .ok (.invokespecial 9, 3) := by decide +kernel
theorem dX8_init_12 : decode cX8_init 12 = .ok (.putfield 10, 3) := by decide +kernel
theorem dX8_init_15 : decode cX8_init 15 = .ok (.aload_n 0, 1) := by decide +kernel
theorem dX8_init_16 : decode cX8_init 16 = .ok (.new 7, 3) := by decide +kernel
theorem dX8_init_19 : decode cX8_init 19 = .ok (.dup, 1) := by decide +kernel
theorem dX8_init_20 : decode cX8_init 20 = .ok (.invokespecial 9, 3) := by decide +kernel
theorem dX8_init_23 : decode cX8_init 23 = .ok (.putfield 16, 3) := by decide +kernel
theorem dX8_init_26 : decode cX8_init 26 = .ok (.aload_n 0, 1) := by decide +kernel
theorem dX8_init_27 : decode cX8_init 27 = .ok (.new 19, 3) := by decide +kernel
theorem dX8_init_30 : decode cX8_init 30 = .ok (.dup, 1) := by decide +kernel
theorem dX8_init_31 : decode cX8_init 31 = .ok (.aload_n 0, 1) := by decide +kernel
theorem dX8_init_32 : decode cX8_init 32 = .ok (.getfield 10, 3) := by decide +kernel
theorem dX8_init_35 : decode cX8_init 35 = .ok (.invokespecial 21, 3) := by decide +kernel
theorem dX8_init_38 : decode cX8_init 38 = .ok (.putfield 24, 3) := by decide +kernel
theorem dX8_init_41 : decode cX8_init 41 = .ok (.aload_n 0, 1) := by decide +kernel
theorem dX8_init_42 : decode cX8_init 42 = .ok (.new 28, 3) := by decide +kernel
theorem dX8_init_45 : decode cX8_init 45 = .ok (.dup, 1) := by decide +kernel
theorem dX8_init_46 : decode cX8_init 46 = .ok (.aload_n 0, 1) := by decide +kernel
theorem dX8_init_47 : decode cX8_init 47 = .ok (.getfield 10, 3) := by decide +kernel
theorem dX8_init_50 : decode cX8_init 50 = .ok (.aload_n 0, 1) := by decide +kernel
theorem dX8_init_51 : decode cX8_init 51 = .ok (.getfield 24, 3) := by decide +kernel
theorem dX8_init_54 : decode cX8_init 54 = .ok (.invokespecial 30, 3) := by decide +kernel
theorem dX8_init_57 : decode cX8_init 57 = .ok (.putfield 33, 3) := by decide +kernel
theorem dX8_init_60 : decode cX8_init 60 = .ok (.aload_n 0, 1) := by decide +kernel
theorem dX8_init_61 : decode cX8_init 61 = .ok (.new 37, 3) := by decide +kernel
theorem dX8_init_64 : decode cX8_init 64 = .ok (.dup, 1) := by decide +kernel
theorem dX8_init_65 : decode cX8_init 65 = .ok (.aload_n 0, 1) := by decide +kernel
theorem dX8_init_66 : decode cX8_init 66 = .ok (.getfield 10, 3) := by decide +kernel
theorem dX8_init_69 : decode cX8_init 69 = .ok (.aload_n 0, 1) := by decide +kernel
theorem dX8_init_70 : decode cX8_init 70 = .ok (.getfield 24, 3) := by decide +kernel
theorem dX8_init_73 : decode cX8_init 73 = .ok (.invokespecial 39, 3) := by decide +kernel
theorem dX8_init_76 : decode cX8_init 76 = .ok (.putfield 40, 3) := by decide +kernel
theorem dX8_init_79 : decode cX8_init 79 = .ok (.aload_n 0, 1) := by decide +kernel
theorem dX8_init_80 : decode cX8_init 80 = .ok (.new 44, 3) := by decide +kernel
theorem dX8_init_83 : decode cX8_init 83 = .ok (.dup, 1) := by decide +kernel
theorem dX8_init_84 : decode cX8_init 84 = .ok (.invokespecial 46, 3) := by decide +kernel
theorem dX8_init_87 : decode cX8_init 87 = .ok (.putfield 47, 3) := by decide +kernel
theorem dX8_init_90 : decode cX8_init 90 = .ok (.aload_n 0, 1) := by decide +kernel
theorem dX8_init_91 : decode cX8_init 91 = .ok (.new 51, 3) := by decide +kernel
theorem dX8_init_94 : decode cX8_init 94 = .ok (.dup, 1) := by decide +kernel
theorem dX8_init_95 : decode cX8_init 95 = .ok (.invokespecial 53, 3) := by decide +kernel
theorem dX8_init_98 : decode cX8_init 98 = .ok (.putfield 54, 3) := by decide +kernel
theorem dX8_init_101 : decode cX8_init 101 = .ok (.aload_n 0, 1) := by decide +kernel
theorem dX8_init_102 : decode cX8_init 102 = .ok (.iconst 4, 1) := by decide +kernel
theorem dX8_init_103 : decode cX8_init 103 = .ok (.anewarray 58, 3) := by decide +kernel
theorem dX8_init_106 : decode cX8_init 106 = .ok (.putfield 60, 3) := by decide +kernel
theorem dX8_init_109 : decode cX8_init 109 = .ok (.aload_n 0, 1) := by decide +kernel
theorem dX8_init_110 : decode cX8_init 110 = .ok (.bipush 7, 2) := by decide +kernel
theorem dX8_init_112 : decode cX8_init 112 = .ok (.newarray .int, 2) := by decide +kernel
theorem dX8_init_114 : decode cX8_init 114 = .ok (.putfield 64, 3) := by decide +kernel
theorem dX8_init_117 : decode cX8_init 117 = .ok (.iconst 0, 1) := by decide +kernel
theorem dX8_init_118 : decode cX8_init 118 = .ok (.istore_n 1, 1) := by decide +kernel
theorem dX8_init_119 : decode cX8_init 119 = .ok (.iload_n 1, 1) := by decide +kernel
theorem dX8_init_120 : decode cX8_init 120 = .ok (.iconst 4, 1) := by decide +kernel
theorem dX8_init_121 : decode cX8_init 121 = .ok (.if_icmp .ge 22, 3) := by decide +kernel
theorem dX8_init_124 : decode cX8_init 124 = .ok (.aload_n 0, 1) := by decide +kernel
theorem dX8_init_125 : decode cX8_init 125 = .ok (.getfield 60, 3) := by decide +kernel
theorem dX8_init_128 : decode cX8_init 128 = .ok (.iload_n 1, 1) := by decide +kernel
theorem dX8_init_129 : decode cX8_init 129 = .ok (.new 58, 3) := by decide +kernel
theorem dX8_init_132 : decode cX8_init 132 = .ok (.dup, 1) := by decide +kernel
theorem dX8_init_133 : decode cX8_init 133 = .ok (.invokespecial 68, 3) := by decide +kernel
theorem dX8_init_136 : decode cX8_init 136 = .ok (.aastore, 1) := by decide +kernel
theorem dX8_init_137 : decode cX8_init 137 = .ok (.iinc 1 1, 3) := by decide +kernel
theorem dX8_init_140 : decode cX8_init 140 = .ok (.goto (-21), 3) := by decide +kernel
theorem dX8_init_143 : decode cX8_init 143 = .ok (.return_, 1) := by decide +kernel
theorem dX8_points_0 : decode cX8_points 0 = .ok (.iload_n 1, 1) := by decide +kernel
theorem dX8_points_1 : decode cX8_points 1 = .ok (.iconst 1, 1) := by decide +kernel
theorem dX8_points_2 : decode cX8_points 2 = .ok (.if_icmp .lt 9, 3) := by decide +kernel
theorem dX8_points_5 : decode cX8_points 5 = .ok (.iload_n 1, 1) := by decide +kernel
theorem dX8_points_6 : decode cX8_points 6 = .ok (.bipush 10, 2) := by decide +kernel
theorem dX8_points_8 : decode cX8_points 8 = .ok (.if_icmp .le 9, 3) := by decide +kernel
theorem dX8_points_11 : decode cX8_points 11 = .ok (.aload_n 0, 1) := by decide +kernel
theorem dX8_points_12 : decode cX8_points 12 = .ok (.iconst 1, 1) := by decide +kernel
theorem dX8_points_13 : decode cX8_points 13 = .ok (.invokevirtual 69, 3) := by decide +kernel
theorem dX8_points_16 : decode cX8_points 16 = .ok (.ireturn, 1) := by decide +kernel
theorem dX8_points_17 : decode cX8_points 17 = .ok (.aload_n 0, 1) := by decide +kernel
theorem dX8_points_18 : decode cX8_points 18 = .ok (.getfield 10, 3) := by decide +kernel
theorem dX8_points_21 : decode cX8_points 21 = .ok (.getfield 73, 3) := by decide +kernel
theorem dX8_points_24 : decode cX8_points 24 = .ok (.istore_n 2, 1) := by decide +kernel
theorem dX8_points_25 : decode cX8_points 25 = .ok (.aload_n 0, 1) := by decide +kernel
theorem dX8_points_26 : decode cX8_points 26 = .ok (.getfield 10, 3) := by decide +kernel
theorem dX8_points_29 : decode cX8_points 29 = .ok (.iload_n 1, 1) := by decide +kernel
theorem dX8_points_30 : decode cX8_points 30 = .ok (.invokevirtual 77, 3) := by decide +kernel
theorem dX8_points_33 : decode cX8_points 33 = .ok (.aload_n 0, 1) := by decide +kernel
theorem dX8_points_34 : decode cX8_points 34 = .ok (.getfield 47, 3) := by decide +kernel
theorem dX8_points_37 : decode cX8_points 37 = .ok (.iconst 0, 1) := by decide +kernel
theorem dX8_points_38 : decode cX8_points 38 = .ok (.putfield 81, 3) := by decide +kernel
theorem dX8_points_41 : decode cX8_points 41 = .ok (.iload_n 2, 1) := by decide +kernel
theorem dX8_points_42 : decode cX8_points 42 = .ok (.ireturn, 1) := by decide +kernel
theorem dX8_line_0 : decode cX8_line 0 = .ok (.aload_n 0, 1) := by decide +kernel
theorem dX8_line_1 : decode cX8_line 1 = .ok (.getfield 10, 3) := by decide +kernel
theorem dX8_line_4 : decode cX8_line 4 = .ok (.iload_n 1, 1) := by decide +kernel
theorem dX8_line_5 : decode cX8_line 5 = .ok (.invokevirtual 85, 3) := by decide +kernel
theorem dX8_line_8 : decode cX8_line 8 = .ok (.ifCond .eq 21, 3) := by decide +kernel
theorem dX8_line_11 : decode cX8_line 11 = .ok (.aload_n 0, 1) := by decide +kernel
theorem dX8_line_12 : decode cX8_line 12 = .ok (.getfield 10, 3) := by decide +kernel
theorem dX8_line_15 : decode cX8_line 15 = .ok (.iload_n 2, 1) := by decide +kernel
theorem dX8_line_16 : decode cX8_line 16 = .ok (.invokevirtual 85, 3) := by decide +kernel
theorem dX8_line_19 : decode cX8_line 19 = .ok (.ifCond .eq 10, 3) := by decide +kernel
theorem dX8_line_22 : decode cX8_line 22 = .ok (.iload_n 3, 1) := by decide +kernel
theorem dX8_line_23 : decode cX8_line 23 = .ok (.invokestatic 89, 3) := by decide +kernel
theorem dX8_line_26 : decode cX8_line 26 = .ok (.ifCond .ne 9, 3) := by decide +kernel
theorem dX8_line_29 : decode cX8_line 29 = .ok (.aload_n 0, 1) := by decide +kernel
theorem dX8_line_30 : decode cX8_line 30 = .ok (.iconst 1, 1) := by decide +kernel
theorem dX8_line_31 : decode cX8_line 31 = .ok (.invokevirtual 69, 3) := by decide +kernel
theorem dX8_line_34 : decode cX8_line 34 = .ok (.ireturn, 1) := by decide +kernel
theorem dX8_line_35 : decode cX8_line 35 = .ok (.iload_n 1, 1) := by decide +kernel
theorem dX8_line_36 : decode cX8_line 36 = .ok (.iload_n 2, 1) := by decide +kernel
theorem dX8_line_37 : decode cX8_line 37 = .ok (.if_icmp .ne 9, 3) := by decide +kernel
theorem dX8_line_40 : decode cX8_line 40 = .ok (.aload_n 0, 1) := by decide +kernel
theorem dX8_line_41 : decode cX8_line 41 = .ok (.iconst 5, 1) := by decide +kernel
theorem dX8_line_42 : decode cX8_line 42 = .ok (.invokevirtual 69, 3) := by decide +kernel
theorem dX8_line_45 : decode cX8_line 45 = .ok (.ireturn, 1) := by decide +kernel
theorem dX8_line_46 : decode cX8_line 46 = .ok (.aload_n 0, 1) := by decide +kernel
theorem dX8_line_47 : decode cX8_line 47 = .ok (.getfield 10, 3) := by decide +kernel
theorem dX8_line_50 : decode cX8_line 50 = .ok (.getfield 92, 3) := by decide +kernel
theorem dX8_line_53 : decode cX8_line 53 = .ok (.bipush 12, 2) := by decide +kernel
theorem dX8_line_55 : decode cX8_line 55 = .ok (.if_icmp .lt 9, 3) := by decide +kernel
theorem dX8_line_58 : decode cX8_line 58 = .ok (.aload_n 0, 1) := by decide +kernel
theorem dX8_line_59 : decode cX8_line 59 = .ok (.iconst 4, 1) := by decide +kernel
theorem dX8_line_60 : decode cX8_line 60 = .ok (.invokevirtual 69, 3) := by decide +kernel
theorem dX8_line_63 : decode cX8_line 63 = .ok (.ireturn, 1) := by decide +kernel
theorem dX8_line_64 : decode cX8_line 64 = .ok (.aload_n 0, 1) := by decide +kernel
theorem dX8_line_65 : decode cX8_line 65 = .ok (.getfield 10, 3) := by decide +kernel
theorem dX8_line_68 : decode cX8_line 68 = .ok (.iload_n 1, 1) := by decide +kernel
theorem dX8_line_69 : decode cX8_line 69 = .ok (.iload_n 2, 1) := by decide +kernel
theorem dX8_line_70 : decode cX8_line 70 = .ok (.iload_n 3, 1) := by decide +kernel
theorem dX8_line_71 : decode cX8_line 71 = .ok (.invokevirtual 95, 3) := by decide +kernel
theorem dX8_line_74 : decode cX8_line 74 = .ok (.aload_n 0, 1) := by decide +kernel
theorem dX8_line_75 : decode cX8_line 75 = .ok (.getfield 47, 3) := by decide +kernel
theorem dX8_line_78 : decode cX8_line 78 = .ok (.iconst 0, 1) := by decide +kernel
theorem dX8_line_79 : decode cX8_line 79 = .ok (.putfield 81, 3) := by decide +kernel
theorem dX8_line_82 : decode cX8_line 82 = .ok (.aload_n 0, 1) := by decide +kernel
theorem dX8_line_83 : decode cX8_line 83 = .ok (.getfield 10, 3) := by decide +kernel
theorem dX8_line_86 : decode cX8_line 86 = .ok (.getfield 92, 3) := by decide +kernel
theorem dX8_line_89 : decode cX8_line 89 = .ok (.iconst 1, 1) := by decide +kernel
theorem dX8_line_90 : decode cX8_line 90 = .ok (.isub, 1) := by decide +kernel
theorem dX8_line_91 : decode cX8_line 91 = .ok (.ireturn, 1) := by decide +kernel
theorem dX8_way_0 : decode cX8_way 0 = .ok (.aload_n 0, 1) := by decide +kernel
theorem dX8_way_1 : decode cX8_way 1 = .ok (.getfield 10, 3) := by decide +kernel
theorem dX8_way_4 : decode cX8_way 4 = .ok (.iload_n 1, 1) := by decide +kernel
theorem dX8_way_5 : decode cX8_way 5 = .ok (.invokevirtual 99, 3) := by decide +kernel
theorem dX8_way_8 : decode cX8_way 8 = .ok (.ifCond .eq 10, 3) := by decide +kernel
theorem dX8_way_11 : decode cX8_way 11 = .ok (.iload_n 2, 1) := by decide +kernel
theorem dX8_way_12 : decode cX8_way 12 = .ok (.invokestatic 89, 3) := by decide +kernel
theorem dX8_way_15 : decode cX8_way 15 = .ok (.ifCond .ne 9, 3) := by decide +kernel
theorem dX8_way_18 : decode cX8_way 18 = .ok (.aload_n 0, 1) := by decide +kernel
theorem dX8_way_19 : decode cX8_way 19 = .ok (.iconst 1, 1) := by decide +kernel
theorem dX8_way_20 : decode cX8_way 20 = .ok (.invokevirtual 69, 3) := by decide +kernel
theorem dX8_way_23 : decode cX8_way 23 = .ok (.ireturn, 1) := by decide +kernel
theorem dX8_way_24 : decode cX8_way 24 = .ok (.aload_n 0, 1) := by decide +kernel
theorem dX8_way_25 : decode cX8_way 25 = .ok (.getfield 10, 3) := by decide +kernel
theorem dX8_way_28 : decode cX8_way 28 = .ok (.getfield 102, 3) := by decide +kernel
theorem dX8_way_31 : decode cX8_way 31 = .ok (.iload_n 1, 1) := by decide +kernel
theorem dX8_way_32 : decode cX8_way 32 = .ok (.iaload, 1) := by decide +kernel
theorem dX8_way_33 : decode cX8_way 33 = .ok (.istore_n 3, 1) := by decide +kernel
theorem dX8_way_34 : decode cX8_way 34 = .ok (.aload_n 0, 1) := by decide +kernel
theorem dX8_way_35 : decode cX8_way 35 = .ok (.getfield 10, 3) := by decide +kernel
theorem dX8_way_38 : decode cX8_way 38 = .ok (.iload_n 1, 1) := by decide +kernel
theorem dX8_way_39 : decode cX8_way 39 = .ok (.iload_n 2, 1) := by decide +kernel
theorem dX8_way_40 : decode cX8_way 40 = .ok (.invokevirtual 105, 3) := by decide +kernel
theorem dX8_way_43 : decode cX8_way 43 = .ok (.aload_n 0, 1) := by decide +kernel
theorem dX8_way_44 : decode cX8_way 44 = .ok (.getfield 47, 3) := by decide +kernel
theorem dX8_way_47 : decode cX8_way 47 = .ok (.iconst 0, 1) := by decide +kernel
theorem dX8_way_48 : decode cX8_way 48 = .ok (.putfield 81, 3) := by decide +kernel
theorem dX8_way_51 : decode cX8_way 51 = .ok (.iload_n 3, 1) := by decide +kernel
theorem dX8_way_52 : decode cX8_way 52 = .ok (.ireturn, 1) := by decide +kernel
theorem dX8_cut_0 : decode cX8_cut 0 = .ok (.aload_n 0, 1) := by decide +kernel
theorem dX8_cut_1 : decode cX8_cut 1 = .ok (.getfield 10, 3) := by decide +kernel
theorem dX8_cut_4 : decode cX8_cut 4 = .ok (.iload_n 1, 1) := by decide +kernel
theorem dX8_cut_5 : decode cX8_cut 5 = .ok (.invokevirtual 99, 3) := by decide +kernel
theorem dX8_cut_8 : decode cX8_cut 8 = .ok (.ifCond .ne 9, 3) := by decide +kernel
theorem dX8_cut_11 : decode cX8_cut 11 = .ok (.aload_n 0, 1) := by decide +kernel
theorem dX8_cut_12 : decode cX8_cut 12 = .ok (.iconst 1, 1) := by decide +kernel
theorem dX8_cut_13 : decode cX8_cut 13 = .ok (.invokevirtual 69, 3) := by decide +kernel
theorem dX8_cut_16 : decode cX8_cut 16 = .ok (.ireturn, 1) := by decide +kernel
theorem dX8_cut_17 : decode cX8_cut 17 = .ok (.aload_n 0, 1) := by decide +kernel
theorem dX8_cut_18 : decode cX8_cut 18 = .ok (.getfield 10, 3) := by decide +kernel
theorem dX8_cut_21 : decode cX8_cut 21 = .ok (.iload_n 1, 1) := by decide +kernel
theorem dX8_cut_22 : decode cX8_cut 22 = .ok (.invokevirtual 109, 3) := by decide +kernel
theorem dX8_cut_25 : decode cX8_cut 25 = .ok (.aload_n 0, 1) := by decide +kernel
theorem dX8_cut_26 : decode cX8_cut 26 = .ok (.getfield 47, 3) := by decide +kernel
theorem dX8_cut_29 : decode cX8_cut 29 = .ok (.iconst 0, 1) := by decide +kernel
theorem dX8_cut_30 : decode cX8_cut 30 = .ok (.putfield 81, 3) := by decide +kernel
theorem dX8_cut_33 : decode cX8_cut 33 = .ok (.aload_n 0, 1) := by decide +kernel
theorem dX8_cut_34 : decode cX8_cut 34 = .ok (.getfield 10, 3) := by decide +kernel
theorem dX8_cut_37 : decode cX8_cut 37 = .ok (.getfield 92, 3) := by decide +kernel
theorem dX8_cut_40 : decode cX8_cut 40 = .ok (.ireturn, 1) := by decide +kernel
theorem dX8_ends_0 : decode cX8_ends 0 = .ok (.aload_n 0, 1) := by decide +kernel
theorem dX8_ends_1 : decode cX8_ends 1 = .ok (.getfield 10, 3) := by decide +kernel
theorem dX8_ends_4 : decode cX8_ends 4 = .ok (.iload_n 1, 1) := by decide +kernel
theorem dX8_ends_5 : decode cX8_ends 5 = .ok (.invokevirtual 99, 3) := by decide +kernel
theorem dX8_ends_8 : decode cX8_ends 8 = .ok (.ifCond .eq 12, 3) := by decide +kernel
theorem dX8_ends_11 : decode cX8_ends 11 = .ok (.iload_n 2, 1) := by decide +kernel
theorem dX8_ends_12 : decode cX8_ends 12 = .ok (.ifCond .lt 8, 3) := by decide +kernel
theorem dX8_ends_15 : decode cX8_ends 15 = .ok (.iload_n 2, 1) := by decide +kernel
theorem dX8_ends_16 : decode cX8_ends 16 = .ok (.iconst 2, 1) := by decide +kernel
theorem dX8_ends_17 : decode cX8_ends 17 = .ok (.if_icmp .le 9, 3) := by decide +kernel
theorem dX8_ends_20 : decode cX8_ends 20 = .ok (.aload_n 0, 1) := by decide +kernel
theorem dX8_ends_21 : decode cX8_ends 21 = .ok (.iconst 1, 1) := by decide +kernel
theorem dX8_ends_22 : decode cX8_ends 22 = .ok (.invokevirtual 69, 3) := by decide +kernel
theorem dX8_ends_25 : decode cX8_ends 25 = .ok (.ireturn, 1) := by decide +kernel
theorem dX8_ends_26 : decode cX8_ends 26 = .ok (.iload_n 2, 1) := by decide +kernel
theorem dX8_ends_27 : decode cX8_ends 27 = .ok (.ifCond .ne 13, 3) := by decide +kernel
theorem dX8_ends_30 : decode cX8_ends 30 = .ok (.aload_n 0, 1) := by decide +kernel
theorem dX8_ends_31 : decode cX8_ends 31 = .ok (.getfield 10, 3) := by decide +kernel
theorem dX8_ends_34 : decode cX8_ends 34 = .ok (.getfield 112, 3) := by decide +kernel
theorem dX8_ends_37 : decode cX8_ends 37 = .ok (.iload_n 1, 1) := by decide +kernel
theorem dX8_ends_38 : decode cX8_ends 38 = .ok (.iaload, 1) := by decide +kernel
theorem dX8_ends_39 : decode cX8_ends 39 = .ok (.ireturn, 1) := by decide +kernel
theorem dX8_ends_40 : decode cX8_ends 40 = .ok (.iload_n 2, 1) := by decide +kernel
theorem dX8_ends_41 : decode cX8_ends 41 = .ok (.iconst 1, 1) := by decide +kernel
theorem dX8_ends_42 : decode cX8_ends 42 = .ok (.if_icmp .ne 15, 3) := by decide +kernel
theorem dX8_ends_45 : decode cX8_ends 45 = .ok (.aload_n 0, 1) := by decide +kernel
theorem dX8_ends_46 : decode cX8_ends 46 = .ok (.getfield 10, 3) := by decide +kernel
theorem dX8_ends_49 : decode cX8_ends 49 = .ok (.getfield 115, 3) := by decide +kernel
theorem dX8_ends_52 : decode cX8_ends 52 = .ok (.iload_n 1, 1) := by decide +kernel
theorem dX8_ends_53 : decode cX8_ends 53 = .ok (.iaload, 1) := by decide +kernel
theorem dX8_ends_54 : decode cX8_ends 54 = .ok (.goto 12, 3) := by decide +kernel
theorem dX8_ends_57 : decode cX8_ends 57 = .ok (.aload_n 0, 1) := by decide +kernel
theorem dX8_ends_58 : decode cX8_ends 58 = .ok (.getfield 10, 3) := by decide +kernel
theorem dX8_ends_61 : decode cX8_ends 61 = .ok (.getfield 102, 3) := by decide +kernel
theorem dX8_ends_64 : decode cX8_ends 64 = .ok (.iload_n 1, 1) := by decide +kernel
theorem dX8_ends_65 : decode cX8_ends 65 = .ok (.iaload, 1) := by decide +kernel
theorem dX8_ends_66 : decode cX8_ends 66 = .ok (.ireturn, 1) := by decide +kernel
theorem dX8_at_0 : decode cX8_at 0 = .ok (.aload_n 0, 1) := by decide +kernel
theorem dX8_at_1 : decode cX8_at 1 = .ok (.getfield 10, 3) := by decide +kernel
theorem dX8_at_4 : decode cX8_at 4 = .ok (.iload_n 1, 1) := by decide +kernel
theorem dX8_at_5 : decode cX8_at 5 = .ok (.invokevirtual 85, 3) := by decide +kernel
theorem dX8_at_8 : decode cX8_at 8 = .ok (.ifCond .eq 12, 3) := by decide +kernel
theorem dX8_at_11 : decode cX8_at 11 = .ok (.iload_n 2, 1) := by decide +kernel
theorem dX8_at_12 : decode cX8_at 12 = .ok (.ifCond .lt 8, 3) := by decide +kernel
theorem dX8_at_15 : decode cX8_at 15 = .ok (.iload_n 2, 1) := by decide +kernel
theorem dX8_at_16 : decode cX8_at 16 = .ok (.iconst 2, 1) := by decide +kernel
theorem dX8_at_17 : decode cX8_at 17 = .ok (.if_icmp .le 9, 3) := by decide +kernel
theorem dX8_at_20 : decode cX8_at 20 = .ok (.aload_n 0, 1) := by decide +kernel
theorem dX8_at_21 : decode cX8_at 21 = .ok (.iconst 1, 1) := by decide +kernel
theorem dX8_at_22 : decode cX8_at 22 = .ok (.invokevirtual 69, 3) := by decide +kernel
theorem dX8_at_25 : decode cX8_at 25 = .ok (.ireturn, 1) := by decide +kernel
theorem dX8_at_26 : decode cX8_at 26 = .ok (.aload_n 0, 1) := by decide +kernel
theorem dX8_at_27 : decode cX8_at 27 = .ok (.getfield 10, 3) := by decide +kernel
theorem dX8_at_30 : decode cX8_at 30 = .ok (.iload_n 1, 1) := by decide +kernel
theorem dX8_at_31 : decode cX8_at 31 = .ok (.iload_n 2, 1) := by decide +kernel
theorem dX8_at_32 : decode cX8_at 32 = .ok (.invokevirtual 118, 3) := by decide +kernel
theorem dX8_at_35 : decode cX8_at 35 = .ok (.ireturn, 1) := by decide +kernel
theorem dX8_sides_0 : decode cX8_sides 0 = .ok (.aload_n 0, 1) := by decide +kernel
theorem dX8_sides_1 : decode cX8_sides 1 = .ok (.getfield 10, 3) := by decide +kernel
theorem dX8_sides_4 : decode cX8_sides 4 = .ok (.invokevirtual 122, 3) := by decide +kernel
theorem dX8_sides_7 : decode cX8_sides 7 = .ok (.istore_n 1, 1) := by decide +kernel
theorem dX8_sides_8 : decode cX8_sides 8 = .ok (.iload_n 1, 1) := by decide +kernel
theorem dX8_sides_9 : decode cX8_sides 9 = .ok (.ifCond .ge 11, 3) := by decide +kernel
theorem dX8_sides_12 : decode cX8_sides 12 = .ok (.aload_n 0, 1) := by decide +kernel
theorem dX8_sides_13 : decode cX8_sides 13 = .ok (.iconst 2, 1) := by decide +kernel
theorem dX8_sides_14 : decode cX8_sides 14 = .ok (.invokevirtual 69, 3) := by decide +kernel
theorem dX8_sides_17 : decode cX8_sides 17 = .ok (.goto 4, 3) := by decide +kernel
theorem dX8_sides_20 : decode cX8_sides 20 = .ok (.iload_n 1, 1) := by decide +kernel
theorem dX8_sides_21 : decode cX8_sides 21 = .ok (.ireturn, 1) := by decide +kernel
theorem dX8_pairing_0 : decode cX8_pairing 0 = .ok (.iload_n 1, 1) := by decide +kernel
theorem dX8_pairing_1 : decode cX8_pairing 1 = .ok (.ifCond .lt 23, 3) := by decide +kernel
theorem dX8_pairing_4 : decode cX8_pairing 4 = .ok (.iload_n 1, 1) := by decide +kernel
theorem dX8_pairing_5 : decode cX8_pairing 5 = .ok (.aload_n 0, 1) := by decide +kernel
theorem dX8_pairing_6 : decode cX8_pairing 6 = .ok (.getfield 10, 3) := by decide +kernel
theorem dX8_pairing_9 : decode cX8_pairing 9 = .ok (.invokevirtual 126, 3) := by decide +kernel
theorem dX8_pairing_12 : decode cX8_pairing 12 = .ok (.if_icmp .gt 12, 3) := by decide +kernel
theorem dX8_pairing_15 : decode cX8_pairing 15 = .ok (.iload_n 2, 1) := by decide +kernel
theorem dX8_pairing_16 : decode cX8_pairing 16 = .ok (.ifCond .lt 8, 3) := by decide +kernel
theorem dX8_pairing_19 : decode cX8_pairing 19 = .ok (.iload_n 2, 1) := by decide +kernel
theorem dX8_pairing_20 : decode cX8_pairing 20 = .ok (.iconst 1, 1) := by decide +kernel
theorem dX8_pairing_21 : decode cX8_pairing 21 = .ok (.if_icmp .le 9, 3) := by decide +kernel
theorem dX8_pairing_24 : decode cX8_pairing 24 = .ok (.aload_n 0, 1) := by decide +kernel
theorem dX8_pairing_25 : decode cX8_pairing 25 = .ok (.iconst 1, 1) := by decide +kernel
theorem dX8_pairing_26 : decode cX8_pairing 26 = .ok (.invokevirtual 69, 3) := by decide +kernel
theorem dX8_pairing_29 : decode cX8_pairing 29 = .ok (.ireturn, 1) := by decide +kernel
theorem dX8_pairing_30 : decode cX8_pairing 30 = .ok (.iload_n 2, 1) := by decide +kernel
theorem dX8_pairing_31 : decode cX8_pairing 31 = .ok (.ifCond .ne 14, 3) := by decide +kernel
theorem dX8_pairing_34 : decode cX8_pairing 34 = .ok (.aload_n 0, 1) := by decide +kernel
theorem dX8_pairing_35 : decode cX8_pairing 35 = .ok (.getfield 10, 3) := by decide +kernel
theorem dX8_pairing_38 : decode cX8_pairing 38 = .ok (.iload_n 1, 1) := by decide +kernel
theorem dX8_pairing_39 : decode cX8_pairing 39 = .ok (.invokevirtual 129, 3) := by decide +kernel
theorem dX8_pairing_42 : decode cX8_pairing 42 = .ok (.goto 11, 3) := by decide +kernel
theorem dX8_pairing_45 : decode cX8_pairing 45 = .ok (.aload_n 0, 1) := by decide +kernel
theorem dX8_pairing_46 : decode cX8_pairing 46 = .ok (.getfield 10, 3) := by decide +kernel
theorem dX8_pairing_49 : decode cX8_pairing 49 = .ok (.iload_n 1, 1) := by decide +kernel
theorem dX8_pairing_50 : decode cX8_pairing 50 = .ok (.invokevirtual 132, 3) := by decide +kernel
theorem dX8_pairing_53 : decode cX8_pairing 53 = .ok (.ireturn, 1) := by decide +kernel
theorem dX8_needed_0 : decode cX8_needed 0 = .ok (.aload_n 0, 1) := by decide +kernel
theorem dX8_needed_1 : decode cX8_needed 1 = .ok (.getfield 10, 3) := by decide +kernel
theorem dX8_needed_4 : decode cX8_needed 4 = .ok (.invokevirtual 135, 3) := by decide +kernel
theorem dX8_needed_7 : decode cX8_needed 7 = .ok (.ireturn, 1) := by decide +kernel
theorem dX8_kernel_0 : decode cX8_kernel 0 = .ok (.iload_n 1, 1) := by decide +kernel
theorem dX8_kernel_1 : decode cX8_kernel 1 = .ok (.iconst (-1), 1) := by decide +kernel
theorem dX8_kernel_2 : decode cX8_kernel 2 = .ok (.if_icmp .ge 9, 3) := by decide +kernel
theorem dX8_kernel_5 : decode cX8_kernel 5 = .ok (.aload_n 0, 1) := by decide +kernel
theorem dX8_kernel_6 : decode cX8_kernel 6 = .ok (.iconst 1, 1) := by decide +kernel
theorem dX8_kernel_7 : decode cX8_kernel 7 = .ok (.invokevirtual 69, 3) := by decide +kernel
theorem dX8_kernel_10 : decode cX8_kernel 10 = .ok (.ireturn, 1) := by decide +kernel
theorem dX8_kernel_11 : decode cX8_kernel 11 = .ok (.iconst 0, 1) := by decide +kernel
theorem dX8_kernel_12 : decode cX8_kernel 12 = .ok (.istore_n 2, 1) := by decide +kernel
theorem dX8_kernel_13 : decode cX8_kernel 13 = .ok (.iconst 1, 1) := by decide +kernel
theorem dX8_kernel_14 : decode cX8_kernel 14 = .ok (.istore_n 3, 1) := by decide +kernel
theorem dX8_kernel_15 : decode cX8_kernel 15 = .ok (.iload_n 3, 1) := by decide +kernel
theorem dX8_kernel_16 : decode cX8_kernel 16 = .ok (.aload_n 0, 1) := by decide +kernel
theorem dX8_kernel_17 : decode cX8_kernel 17 = .ok (.getfield 10, 3) := by decide +kernel
theorem dX8_kernel_20 : decode cX8_kernel 20 = .ok (.invokevirtual 126, 3) := by decide +kernel
theorem dX8_kernel_23 : decode cX8_kernel 23 = .ok (.if_icmp .gt 30, 3) := by decide +kernel
theorem dX8_kernel_26 : decode cX8_kernel 26 = .ok (.aload_n 0, 1) := by decide +kernel
theorem dX8_kernel_27 : decode cX8_kernel 27 = .ok (.getfield 10, 3) := by decide +kernel
theorem dX8_kernel_30 : decode cX8_kernel 30 = .ok (.iload_n 3, 1) := by decide +kernel
theorem dX8_kernel_31 : decode cX8_kernel 31 = .ok (.invokevirtual 138, 3) := by decide +kernel
theorem dX8_kernel_34 : decode cX8_kernel 34 = .ok (.ifCond .eq 13, 3) := by decide +kernel
theorem dX8_kernel_37 : decode cX8_kernel 37 = .ok (.iload_n 2, 1) := by decide +kernel
theorem dX8_kernel_38 : decode cX8_kernel 38 = .ok (.iload_n 1, 1) := by decide +kernel
theorem dX8_kernel_39 : decode cX8_kernel 39 = .ok (.if_icmp .ne 5, 3) := by decide +kernel
theorem dX8_kernel_42 : decode cX8_kernel 42 = .ok (.iload_n 3, 1) := by decide +kernel
theorem dX8_kernel_43 : decode cX8_kernel 43 = .ok (.ireturn, 1) := by decide +kernel
theorem dX8_kernel_44 : decode cX8_kernel 44 = .ok (.iinc 2 1, 3) := by decide +kernel
theorem dX8_kernel_47 : decode cX8_kernel 47 = .ok (.iinc 3 1, 3) := by decide +kernel
theorem dX8_kernel_50 : decode cX8_kernel 50 = .ok (.goto (-35), 3) := by decide +kernel
theorem dX8_kernel_53 : decode cX8_kernel 53 = .ok (.iload_n 1, 1) := by decide +kernel
theorem dX8_kernel_54 : decode cX8_kernel 54 = .ok (.iconst (-1), 1) := by decide +kernel
theorem dX8_kernel_55 : decode cX8_kernel 55 = .ok (.if_icmp .ne 7, 3) := by decide +kernel
theorem dX8_kernel_58 : decode cX8_kernel 58 = .ok (.iload_n 2, 1) := by decide +kernel
theorem dX8_kernel_59 : decode cX8_kernel 59 = .ok (.goto 8, 3) := by decide +kernel
theorem dX8_kernel_62 : decode cX8_kernel 62 = .ok (.aload_n 0, 1) := by decide +kernel
theorem dX8_kernel_63 : decode cX8_kernel 63 = .ok (.iconst 2, 1) := by decide +kernel
theorem dX8_kernel_64 : decode cX8_kernel 64 = .ok (.invokevirtual 69, 3) := by decide +kernel
theorem dX8_kernel_67 : decode cX8_kernel 67 = .ok (.ireturn, 1) := by decide +kernel
theorem dX8_feed_0 : decode cX8_feed 0 = .ok (.iload_n 3, 1) := by decide +kernel
theorem dX8_feed_1 : decode cX8_feed 1 = .ok (.iconst 1, 1) := by decide +kernel
theorem dX8_feed_2 : decode cX8_feed 2 = .ok (.if_icmp .lt 9, 3) := by decide +kernel
theorem dX8_feed_5 : decode cX8_feed 5 = .ok (.iload_n 3, 1) := by decide +kernel
theorem dX8_feed_6 : decode cX8_feed 6 = .ok (.bipush 8, 2) := by decide +kernel
theorem dX8_feed_8 : decode cX8_feed 8 = .ok (.if_icmp .le 9, 3) := by decide +kernel
theorem dX8_feed_11 : decode cX8_feed 11 = .ok (.aload_n 0, 1) := by decide +kernel
theorem dX8_feed_12 : decode cX8_feed 12 = .ok (.iconst 1, 1) := by decide +kernel
theorem dX8_feed_13 : decode cX8_feed 13 = .ok (.invokevirtual 69, 3) := by decide +kernel
theorem dX8_feed_16 : decode cX8_feed 16 = .ok (.ireturn, 1) := by decide +kernel
theorem dX8_feed_17 : decode cX8_feed 17 = .ok (.aload_n 0, 1) := by decide +kernel
theorem dX8_feed_18 : decode cX8_feed 18 = .ok (.getfield 54, 3) := by decide +kernel
theorem dX8_feed_21 : decode cX8_feed 21 = .ok (.getfield 141, 3) := by decide +kernel
theorem dX8_feed_24 : decode cX8_feed 24 = .ok (.iload_n 3, 1) := by decide +kernel
theorem dX8_feed_25 : decode cX8_feed 25 = .ok (.iadd, 1) := by decide +kernel
theorem dX8_feed_26 : decode cX8_feed 26 = .ok (.bipush 60, 2) := by decide +kernel
theorem dX8_feed_28 : decode cX8_feed 28 = .ok (.if_icmp .le 9, 3) := by decide +kernel
theorem dX8_feed_31 : decode cX8_feed 31 = .ok (.aload_n 0, 1) := by decide +kernel
theorem dX8_feed_32 : decode cX8_feed 32 = .ok (.iconst 4, 1) := by decide +kernel
theorem dX8_feed_33 : decode cX8_feed 33 = .ok (.invokevirtual 69, 3) := by decide +kernel
theorem dX8_feed_36 : decode cX8_feed 36 = .ok (.ireturn, 1) := by decide +kernel
theorem dX8_feed_37 : decode cX8_feed 37 = .ok (.aload_n 0, 1) := by decide +kernel
theorem dX8_feed_38 : decode cX8_feed 38 = .ok (.getfield 54, 3) := by decide +kernel
theorem dX8_feed_41 : decode cX8_feed 41 = .ok (.lload_n 1, 1) := by decide +kernel
theorem dX8_feed_42 : decode cX8_feed 42 = .ok (.iload_n 3, 1) := by decide +kernel
theorem dX8_feed_43 : decode cX8_feed 43 = .ok (.invokevirtual 144, 3) := by decide +kernel
theorem dX8_feed_46 : decode cX8_feed 46 = .ok (.aload_n 0, 1) := by decide +kernel
theorem dX8_feed_47 : decode cX8_feed 47 = .ok (.getfield 54, 3) := by decide +kernel
theorem dX8_feed_50 : decode cX8_feed 50 = .ok (.getfield 141, 3) := by decide +kernel
theorem dX8_feed_53 : decode cX8_feed 53 = .ok (.ireturn, 1) := by decide +kernel
theorem dX8_network_0 : decode cX8_network 0 = .ok (.aload_n 0, 1) := by decide +kernel
theorem dX8_network_1 : decode cX8_network 1 = .ok (.getfield 54, 3) := by decide +kernel
theorem dX8_network_4 : decode cX8_network 4 = .ok (.invokevirtual 148, 3) := by decide +kernel
theorem dX8_network_7 : decode cX8_network 7 = .ok (.istore_n 1, 1) := by decide +kernel
theorem dX8_network_8 : decode cX8_network 8 = .ok (.iload_n 1, 1) := by decide +kernel
theorem dX8_network_9 : decode cX8_network 9 = .ok (.ifCond .ge 22, 3) := by decide +kernel
theorem dX8_network_12 : decode cX8_network 12 = .ok (.aload_n 0, 1) := by decide +kernel
theorem dX8_network_13 : decode cX8_network 13 = .ok (.getfield 54, 3) := by decide +kernel
theorem dX8_network_16 : decode cX8_network 16 = .ok (.aload_n 0, 1) := by decide +kernel
theorem dX8_network_17 : decode cX8_network 17 = .ok (.getfield 10, 3) := by decide +kernel
theorem dX8_network_20 : decode cX8_network 20 = .ok (.invokevirtual 151, 3) := by decide +kernel
theorem dX8_network_23 : decode cX8_network 23 = .ok (.aload_n 0, 1) := by decide +kernel
theorem dX8_network_24 : decode cX8_network 24 = .ok (.getfield 47, 3) := by decide +kernel
theorem dX8_network_27 : decode cX8_network 27 = .ok (.iconst 0, 1) := by decide +kernel
theorem dX8_network_28 : decode cX8_network 28 = .ok (.putfield 81, 3) := by decide +kernel
theorem dX8_network_31 : decode cX8_network 31 = .ok (.aload_n 0, 1) := by decide +kernel
theorem dX8_network_32 : decode cX8_network 32 = .ok (.getfield 54, 3) := by decide +kernel
theorem dX8_network_35 : decode cX8_network 35 = .ok (.iconst 0, 1) := by decide +kernel
theorem dX8_network_36 : decode cX8_network 36 = .ok (.putfield 141, 3) := by decide +kernel
theorem dX8_network_39 : decode cX8_network 39 = .ok (.iload_n 1, 1) := by decide +kernel
theorem dX8_network_40 : decode cX8_network 40 = .ok (.ifCond .ge 13, 3) := by decide +kernel
theorem dX8_network_43 : decode cX8_network 43 = .ok (.aload_n 0, 1) := by decide +kernel
theorem dX8_network_44 : decode cX8_network 44 = .ok (.getfield 10, 3) := by decide +kernel
theorem dX8_network_47 : decode cX8_network 47 = .ok (.getfield 92, 3) := by decide +kernel
theorem dX8_network_50 : decode cX8_network 50 = .ok (.goto 7, 3) := by decide +kernel
theorem dX8_network_53 : decode cX8_network 53 = .ok (.bipush (-10), 2) := by decide +kernel
theorem dX8_network_55 : decode cX8_network 55 = .ok (.iload_n 1, 1) := by decide +kernel
theorem dX8_network_56 : decode cX8_network 56 = .ok (.isub, 1) := by decide +kernel
theorem dX8_network_57 : decode cX8_network 57 = .ok (.ireturn, 1) := by decide +kernel
theorem dX8_begin_0 : decode cX8_begin 0 = .ok (.iload_n 1, 1) := by decide +kernel
theorem dX8_begin_1 : decode cX8_begin 1 = .ok (.invokestatic 154, 3) := by decide +kernel
theorem dX8_begin_4 : decode cX8_begin 4 = .ok (.ifCond .eq 14, 3) := by decide +kernel
theorem dX8_begin_7 : decode cX8_begin 7 = .ok (.aload_n 0, 1) := by decide +kernel
theorem dX8_begin_8 : decode cX8_begin 8 = .ok (.getfield 10, 3) := by decide +kernel
theorem dX8_begin_11 : decode cX8_begin 11 = .ok (.iload_n 2, 1) := by decide +kernel
theorem dX8_begin_12 : decode cX8_begin 12 = .ok (.invokevirtual 85, 3) := by decide +kernel
theorem dX8_begin_15 : decode cX8_begin 15 = .ok (.ifCond .ne 9, 3) := by decide +kernel
theorem dX8_begin_18 : decode cX8_begin 18 = .ok (.aload_n 0, 1) := by decide +kernel
theorem dX8_begin_19 : decode cX8_begin 19 = .ok (.iconst 1, 1) := by decide +kernel
theorem dX8_begin_20 : decode cX8_begin 20 = .ok (.invokevirtual 69, 3) := by decide +kernel
theorem dX8_begin_23 : decode cX8_begin 23 = .ok (.ireturn, 1) := by decide +kernel
theorem dX8_begin_24 : decode cX8_begin 24 = .ok (.aload_n 0, 1) := by decide +kernel
theorem dX8_begin_25 : decode cX8_begin 25 = .ok (.getfield 24, 3) := by decide +kernel
theorem dX8_begin_28 : decode cX8_begin 28 = .ok (.iload_n 1, 1) := by decide +kernel
theorem dX8_begin_29 : decode cX8_begin 29 = .ok (.invokevirtual 157, 3) := by decide +kernel
theorem dX8_begin_32 : decode cX8_begin 32 = .ok (.aload_n 0, 1) := by decide +kernel
theorem dX8_begin_33 : decode cX8_begin 33 = .ok (.getfield 47, 3) := by decide +kernel
theorem dX8_begin_36 : decode cX8_begin 36 = .ok (.iload_n 1, 1) := by decide +kernel
theorem dX8_begin_37 : decode cX8_begin 37 = .ok (.iload_n 2, 1) := by decide +kernel
theorem dX8_begin_38 : decode cX8_begin 38 = .ok (.invokestatic 160, 3) := by decide +kernel
theorem dX8_begin_41 : decode cX8_begin 41 = .ok (.invokevirtual 165, 3) := by decide +kernel
theorem dX8_begin_44 : decode cX8_begin 44 = .ok (.aload_n 0, 1) := by decide +kernel
theorem dX8_begin_45 : decode cX8_begin 45 = .ok (.getfield 24, 3) := by decide +kernel
theorem dX8_begin_48 : decode cX8_begin 48 = .ok (.aload_n 0, 1) := by decide +kernel
theorem dX8_begin_49 : decode cX8_begin 49 = .ok (.getfield 47, 3) := by decide +kernel
theorem dX8_begin_52 : decode cX8_begin 52 = .ok (.invokevirtual 168, 3) := by decide +kernel
theorem dX8_begin_55 : decode cX8_begin 55 = .ok (.invokevirtual 171, 3) := by decide +kernel
theorem dX8_begin_58 : decode cX8_begin 58 = .ok (.ifCond .eq 7, 3) := by decide +kernel
theorem dX8_begin_61 : decode cX8_begin 61 = .ok (.iconst 1, 1) := by decide +kernel
theorem dX8_begin_62 : decode cX8_begin 62 = .ok (.goto 4, 3) := by decide +kernel
theorem dX8_begin_65 : decode cX8_begin 65 = .ok (.iconst 0, 1) := by decide +kernel
theorem dX8_begin_66 : decode cX8_begin 66 = .ok (.ireturn, 1) := by decide +kernel
theorem dX8_go_0 : decode cX8_go 0 = .ok (.aload_n 0, 1) := by decide +kernel
theorem dX8_go_1 : decode cX8_go 1 = .ok (.getfield 47, 3) := by decide +kernel
theorem dX8_go_4 : decode cX8_go 4 = .ok (.getfield 81, 3) := by decide +kernel
theorem dX8_go_7 : decode cX8_go 7 = .ok (.ifCond .eq 10, 3) := by decide +kernel
theorem dX8_go_10 : decode cX8_go 10 = .ok (.aload_n 0, 1) := by decide +kernel
theorem dX8_go_11 : decode cX8_go 11 = .ok (.invokevirtual 174, 3) := by decide +kernel
theorem dX8_go_14 : decode cX8_go 14 = .ok (.ifCond .eq 9, 3) := by decide +kernel
theorem dX8_go_17 : decode cX8_go 17 = .ok (.aload_n 0, 1) := by decide +kernel
theorem dX8_go_18 : decode cX8_go 18 = .ok (.iconst 3, 1) := by decide +kernel
theorem dX8_go_19 : decode cX8_go 19 = .ok (.invokevirtual 69, 3) := by decide +kernel
theorem dX8_go_22 : decode cX8_go 22 = .ok (.ireturn, 1) := by decide +kernel
theorem dX8_go_23 : decode cX8_go 23 = .ok (.aload_n 0, 1) := by decide +kernel
theorem dX8_go_24 : decode cX8_go 24 = .ok (.getfield 10, 3) := by decide +kernel
theorem dX8_go_27 : decode cX8_go 27 = .ok (.iload_n 1, 1) := by decide +kernel
theorem dX8_go_28 : decode cX8_go 28 = .ok (.invokevirtual 99, 3) := by decide +kernel
theorem dX8_go_31 : decode cX8_go 31 = .ok (.ifCond .ne 9, 3) := by decide +kernel
theorem dX8_go_34 : decode cX8_go 34 = .ok (.aload_n 0, 1) := by decide +kernel
theorem dX8_go_35 : decode cX8_go 35 = .ok (.iconst 1, 1) := by decide +kernel
theorem dX8_go_36 : decode cX8_go 36 = .ok (.invokevirtual 69, 3) := by decide +kernel
theorem dX8_go_39 : decode cX8_go 39 = .ok (.ireturn, 1) := by decide +kernel
theorem dX8_go_40 : decode cX8_go 40 = .ok (.aload_n 0, 1) := by decide +kernel
theorem dX8_go_41 : decode cX8_go 41 = .ok (.getfield 24, 3) := by decide +kernel
theorem dX8_go_44 : decode cX8_go 44 = .ok (.aload_n 0, 1) := by decide +kernel
theorem dX8_go_45 : decode cX8_go 45 = .ok (.getfield 47, 3) := by decide +kernel
theorem dX8_go_48 : decode cX8_go 48 = .ok (.invokevirtual 168, 3) := by decide +kernel
theorem dX8_go_51 : decode cX8_go 51 = .ok (.invokevirtual 178, 3) := by decide +kernel
theorem dX8_go_54 : decode cX8_go 54 = .ok (.iload_n 1, 1) := by decide +kernel
theorem dX8_go_55 : decode cX8_go 55 = .ok (.ishr, 1) := by decide +kernel
theorem dX8_go_56 : decode cX8_go 56 = .ok (.iconst 1, 1) := by decide +kernel
theorem dX8_go_57 : decode cX8_go 57 = .ok (.iand, 1) := by decide +kernel
theorem dX8_go_58 : decode cX8_go 58 = .ok (.ifCond .ne 9, 3) := by decide +kernel
theorem dX8_go_61 : decode cX8_go 61 = .ok (.aload_n 0, 1) := by decide +kernel
theorem dX8_go_62 : decode cX8_go 62 = .ok (.iconst 2, 1) := by decide +kernel
theorem dX8_go_63 : decode cX8_go 63 = .ok (.invokevirtual 69, 3) := by decide +kernel
theorem dX8_go_66 : decode cX8_go 66 = .ok (.ireturn, 1) := by decide +kernel
theorem dX8_go_67 : decode cX8_go 67 = .ok (.aload_n 0, 1) := by decide +kernel
theorem dX8_go_68 : decode cX8_go 68 = .ok (.getfield 47, 3) := by decide +kernel
theorem dX8_go_71 : decode cX8_go 71 = .ok (.iload_n 1, 1) := by decide +kernel
theorem dX8_go_72 : decode cX8_go 72 = .ok (.aload_n 0, 1) := by decide +kernel
theorem dX8_go_73 : decode cX8_go 73 = .ok (.getfield 24, 3) := by decide +kernel
theorem dX8_go_76 : decode cX8_go 76 = .ok (.aload_n 0, 1) := by decide +kernel
theorem dX8_go_77 : decode cX8_go 77 = .ok (.getfield 47, 3) := by decide +kernel
theorem dX8_go_80 : decode cX8_go 80 = .ok (.invokevirtual 168, 3) := by decide +kernel
theorem dX8_go_83 : decode cX8_go 83 = .ok (.iload_n 1, 1) := by decide +kernel
theorem dX8_go_84 : decode cX8_go 84 = .ok (.invokevirtual 181, 3) := by decide +kernel
theorem dX8_go_87 : decode cX8_go 87 = .ok (.invokevirtual 184, 3) := by decide +kernel
theorem dX8_go_90 : decode cX8_go 90 = .ok (.aload_n 0, 1) := by decide +kernel
theorem dX8_go_91 : decode cX8_go 91 = .ok (.invokevirtual 174, 3) := by decide +kernel
theorem dX8_go_94 : decode cX8_go 94 = .ok (.ifCond .eq 7, 3) := by decide +kernel
theorem dX8_go_97 : decode cX8_go 97 = .ok (.iconst 1, 1) := by decide +kernel
theorem dX8_go_98 : decode cX8_go 98 = .ok (.goto 4, 3) := by decide +kernel
theorem dX8_go_101 : decode cX8_go 101 = .ok (.iconst 0, 1) := by decide +kernel
theorem dX8_go_102 : decode cX8_go 102 = .ok (.ireturn, 1) := by decide +kernel
theorem dX8_back_0 : decode cX8_back 0 = .ok (.aload_n 0, 1) := by decide +kernel
theorem dX8_back_1 : decode cX8_back 1 = .ok (.getfield 47, 3) := by decide +kernel
theorem dX8_back_4 : decode cX8_back 4 = .ok (.getfield 81, 3) := by decide +kernel
theorem dX8_back_7 : decode cX8_back 7 = .ok (.ifCond .ne 9, 3) := by decide +kernel
theorem dX8_back_10 : decode cX8_back 10 = .ok (.aload_n 0, 1) := by decide +kernel
theorem dX8_back_11 : decode cX8_back 11 = .ok (.iconst 3, 1) := by decide +kernel
theorem dX8_back_12 : decode cX8_back 12 = .ok (.invokevirtual 69, 3) := by decide +kernel
theorem dX8_back_15 : decode cX8_back 15 = .ok (.ireturn, 1) := by decide +kernel
theorem dX8_back_16 : decode cX8_back 16 = .ok (.aload_n 0, 1) := by decide +kernel
theorem dX8_back_17 : decode cX8_back 17 = .ok (.getfield 47, 3) := by decide +kernel
theorem dX8_back_20 : decode cX8_back 20 = .ok (.getfield 187, 3) := by decide +kernel
theorem dX8_back_23 : decode cX8_back 23 = .ok (.ifCond .ne 9, 3) := by decide +kernel
theorem dX8_back_26 : decode cX8_back 26 = .ok (.aload_n 0, 1) := by decide +kernel
theorem dX8_back_27 : decode cX8_back 27 = .ok (.iconst 2, 1) := by decide +kernel
theorem dX8_back_28 : decode cX8_back 28 = .ok (.invokevirtual 69, 3) := by decide +kernel
theorem dX8_back_31 : decode cX8_back 31 = .ok (.ireturn, 1) := by decide +kernel
theorem dX8_back_32 : decode cX8_back 32 = .ok (.aload_n 0, 1) := by decide +kernel
theorem dX8_back_33 : decode cX8_back 33 = .ok (.getfield 47, 3) := by decide +kernel
theorem dX8_back_36 : decode cX8_back 36 = .ok (.dup, 1) := by decide +kernel
theorem dX8_back_37 : decode cX8_back 37 = .ok (.getfield 187, 3) := by decide +kernel
theorem dX8_back_40 : decode cX8_back 40 = .ok (.iconst 1, 1) := by decide +kernel
theorem dX8_back_41 : decode cX8_back 41 = .ok (.isub, 1) := by decide +kernel
theorem dX8_back_42 : decode cX8_back 42 = .ok (.putfield 187, 3) := by decide +kernel
theorem dX8_back_45 : decode cX8_back 45 = .ok (.aload_n 0, 1) := by decide +kernel
theorem dX8_back_46 : decode cX8_back 46 = .ok (.getfield 47, 3) := by decide +kernel
theorem dX8_back_49 : decode cX8_back 49 = .ok (.getfield 187, 3) := by decide +kernel
theorem dX8_back_52 : decode cX8_back 52 = .ok (.ireturn, 1) := by decide +kernel
theorem dX8_game_0 : decode cX8_game 0 = .ok (.iload_n 1, 1) := by decide +kernel
theorem dX8_game_1 : decode cX8_game 1 = .ok (.ifCond .lt 9, 3) := by decide +kernel
theorem dX8_game_4 : decode cX8_game 4 = .ok (.iload_n 1, 1) := by decide +kernel
theorem dX8_game_5 : decode cX8_game 5 = .ok (.bipush 7, 2) := by decide +kernel
theorem dX8_game_7 : decode cX8_game 7 = .ok (.if_icmp .le 9, 3) := by decide +kernel
theorem dX8_game_10 : decode cX8_game 10 = .ok (.aload_n 0, 1) := by decide +kernel
theorem dX8_game_11 : decode cX8_game 11 = .ok (.iconst 1, 1) := by decide +kernel
theorem dX8_game_12 : decode cX8_game 12 = .ok (.invokevirtual 69, 3) := by decide +kernel
theorem dX8_game_15 : decode cX8_game 15 = .ok (.ireturn, 1) := by decide +kernel
theorem dX8_game_16 : decode cX8_game 16 = .ok (.aload_n 0, 1) := by decide +kernel
theorem dX8_game_17 : decode cX8_game 17 = .ok (.getfield 47, 3) := by decide +kernel
theorem dX8_game_20 : decode cX8_game 20 = .ok (.getfield 81, 3) := by decide +kernel
theorem dX8_game_23 : decode cX8_game 23 = .ok (.ifCond .ne 9, 3) := by decide +kernel
theorem dX8_game_26 : decode cX8_game 26 = .ok (.aload_n 0, 1) := by decide +kernel
theorem dX8_game_27 : decode cX8_game 27 = .ok (.iconst 3, 1) := by decide +kernel
theorem dX8_game_28 : decode cX8_game 28 = .ok (.invokevirtual 69, 3) := by decide +kernel
theorem dX8_game_31 : decode cX8_game 31 = .ok (.ireturn, 1) := by decide +kernel
theorem dX8_game_32 : decode cX8_game 32 = .ok (.aload_n 0, 1) := by decide +kernel
theorem dX8_game_33 : decode cX8_game 33 = .ok (.getfield 47, 3) := by decide +kernel
theorem dX8_game_36 : decode cX8_game 36 = .ok (.invokevirtual 168, 3) := by decide +kernel
theorem dX8_game_39 : decode cX8_game 39 = .ok (.istore_n 2, 1) := by decide +kernel
theorem dX8_game_40 : decode cX8_game 40 = .ok (.iload_n 1, 1) := by decide +kernel
theorem dX8_game_41 : decode cX8_game 41 = .ok (.tableswitch 97 0 6 #[43, 51, 56, 61, 66, 74, 84], 43) := by decide +kernel
theorem dX8_game_84 : decode cX8_game 84 = .ok (.aload_n 0, 1) := by decide +kernel
theorem dX8_game_85 : decode cX8_game 85 = .ok (.getfield 47, 3) := by decide +kernel
theorem dX8_game_88 : decode cX8_game 88 = .ok (.getfield 190, 3) := by decide +kernel
theorem dX8_game_91 : decode cX8_game 91 = .ok (.ireturn, 1) := by decide +kernel
theorem dX8_game_92 : decode cX8_game 92 = .ok (.iload_n 2, 1) := by decide +kernel
theorem dX8_game_93 : decode cX8_game 93 = .ok (.invokestatic 193, 3) := by decide +kernel
theorem dX8_game_96 : decode cX8_game 96 = .ok (.ireturn, 1) := by decide +kernel
theorem dX8_game_97 : decode cX8_game 97 = .ok (.iload_n 2, 1) := by decide +kernel
theorem dX8_game_98 : decode cX8_game 98 = .ok (.invokestatic 196, 3) := by decide +kernel
theorem dX8_game_101 : decode cX8_game 101 = .ok (.ireturn, 1) := by decide +kernel
theorem dX8_game_102 : decode cX8_game 102 = .ok (.iload_n 2, 1) := by decide +kernel
theorem dX8_game_103 : decode cX8_game 103 = .ok (.invokestatic 199, 3) := by decide +kernel
theorem dX8_game_106 : decode cX8_game 106 = .ok (.ireturn, 1) := by decide +kernel
theorem dX8_game_107 : decode cX8_game 107 = .ok (.aload_n 0, 1) := by decide +kernel
theorem dX8_game_108 : decode cX8_game 108 = .ok (.getfield 47, 3) := by decide +kernel
theorem dX8_game_111 : decode cX8_game 111 = .ok (.getfield 187, 3) := by decide +kernel
theorem dX8_game_114 : decode cX8_game 114 = .ok (.ireturn, 1) := by decide +kernel
theorem dX8_game_115 : decode cX8_game 115 = .ok (.aload_n 0, 1) := by decide +kernel
theorem dX8_game_116 : decode cX8_game 116 = .ok (.getfield 47, 3) := by decide +kernel
theorem dX8_game_119 : decode cX8_game 119 = .ok (.getfield 187, 3) := by decide +kernel
theorem dX8_game_122 : decode cX8_game 122 = .ok (.iconst 1, 1) := by decide +kernel
theorem dX8_game_123 : decode cX8_game 123 = .ok (.iand, 1) := by decide +kernel
theorem dX8_game_124 : decode cX8_game 124 = .ok (.ireturn, 1) := by decide +kernel
theorem dX8_game_125 : decode cX8_game 125 = .ok (.aload_n 0, 1) := by decide +kernel
theorem dX8_game_126 : decode cX8_game 126 = .ok (.invokevirtual 174, 3) := by decide +kernel
theorem dX8_game_129 : decode cX8_game 129 = .ok (.ifCond .eq 7, 3) := by decide +kernel
theorem dX8_game_132 : decode cX8_game 132 = .ok (.iconst 1, 1) := by decide +kernel
theorem dX8_game_133 : decode cX8_game 133 = .ok (.goto 4, 3) := by decide +kernel
theorem dX8_game_136 : decode cX8_game 136 = .ok (.iconst 0, 1) := by decide +kernel
theorem dX8_game_137 : decode cX8_game 137 = .ok (.ireturn, 1) := by decide +kernel
theorem dX8_game_138 : decode cX8_game 138 = .ok (.aload_n 0, 1) := by decide +kernel
theorem dX8_game_139 : decode cX8_game 139 = .ok (.getfield 24, 3) := by decide +kernel
theorem dX8_game_142 : decode cX8_game 142 = .ok (.iload_n 2, 1) := by decide +kernel
theorem dX8_game_143 : decode cX8_game 143 = .ok (.aload_n 0, 1) := by decide +kernel
theorem dX8_game_144 : decode cX8_game 144 = .ok (.getfield 47, 3) := by decide +kernel
theorem dX8_game_147 : decode cX8_game 147 = .ok (.getfield 187, 3) := by decide +kernel
theorem dX8_game_150 : decode cX8_game 150 = .ok (.iconst 1, 1) := by decide +kernel
theorem dX8_game_151 : decode cX8_game 151 = .ok (.iand, 1) := by decide +kernel
theorem dX8_game_152 : decode cX8_game 152 = .ok (.invokevirtual 202, 3) := by decide +kernel
theorem dX8_game_155 : decode cX8_game 155 = .ok (.ireturn, 1) := by decide +kernel
theorem dX8_moved_0 : decode cX8_moved 0 = .ok (.aload_n 0, 1) := by decide +kernel
theorem dX8_moved_1 : decode cX8_moved 1 = .ok (.getfield 47, 3) := by decide +kernel
theorem dX8_moved_4 : decode cX8_moved 4 = .ok (.getfield 81, 3) := by decide +kernel
theorem dX8_moved_7 : decode cX8_moved 7 = .ok (.ifCond .ne 9, 3) := by decide +kernel
theorem dX8_moved_10 : decode cX8_moved 10 = .ok (.aload_n 0, 1) := by decide +kernel
theorem dX8_moved_11 : decode cX8_moved 11 = .ok (.iconst 3, 1) := by decide +kernel
theorem dX8_moved_12 : decode cX8_moved 12 = .ok (.invokevirtual 69, 3) := by decide +kernel
theorem dX8_moved_15 : decode cX8_moved 15 = .ok (.ireturn, 1) := by decide +kernel
theorem dX8_moved_16 : decode cX8_moved 16 = .ok (.iload_n 1, 1) := by decide +kernel
theorem dX8_moved_17 : decode cX8_moved 17 = .ok (.ifCond .lt 14, 3) := by decide +kernel
theorem dX8_moved_20 : decode cX8_moved 20 = .ok (.iload_n 1, 1) := by decide +kernel
theorem dX8_moved_21 : decode cX8_moved 21 = .ok (.aload_n 0, 1) := by decide +kernel
theorem dX8_moved_22 : decode cX8_moved 22 = .ok (.getfield 47, 3) := by decide +kernel
theorem dX8_moved_25 : decode cX8_moved 25 = .ok (.getfield 187, 3) := by decide +kernel
theorem dX8_moved_28 : decode cX8_moved 28 = .ok (.if_icmp .lt 9, 3) := by decide +kernel
theorem dX8_moved_31 : decode cX8_moved 31 = .ok (.aload_n 0, 1) := by decide +kernel
theorem dX8_moved_32 : decode cX8_moved 32 = .ok (.iconst 2, 1) := by decide +kernel
theorem dX8_moved_33 : decode cX8_moved 33 = .ok (.invokevirtual 69, 3) := by decide +kernel
theorem dX8_moved_36 : decode cX8_moved 36 = .ok (.ireturn, 1) := by decide +kernel
theorem dX8_moved_37 : decode cX8_moved 37 = .ok (.aload_n 0, 1) := by decide +kernel
theorem dX8_moved_38 : decode cX8_moved 38 = .ok (.getfield 47, 3) := by decide +kernel
theorem dX8_moved_41 : decode cX8_moved 41 = .ok (.getfield 205, 3) := by decide +kernel
theorem dX8_moved_44 : decode cX8_moved 44 = .ok (.iload_n 1, 1) := by decide +kernel
theorem dX8_moved_45 : decode cX8_moved 45 = .ok (.iaload, 1) := by decide +kernel
theorem dX8_moved_46 : decode cX8_moved 46 = .ok (.ireturn, 1) := by decide +kernel
theorem dX8_moves_0 : decode cX8_moves 0 = .ok (.iload_n 1, 1) := by decide +kernel
theorem dX8_moves_1 : decode cX8_moves 1 = .ok (.ifCond .lt 8, 3) := by decide +kernel
theorem dX8_moves_4 : decode cX8_moves 4 = .ok (.iload_n 1, 1) := by decide +kernel
theorem dX8_moves_5 : decode cX8_moves 5 = .ok (.iconst 1, 1) := by decide +kernel
theorem dX8_moves_6 : decode cX8_moves 6 = .ok (.if_icmp .le 9, 3) := by decide +kernel
theorem dX8_moves_9 : decode cX8_moves 9 = .ok (.aload_n 0, 1) := by decide +kernel
theorem dX8_moves_10 : decode cX8_moves 10 = .ok (.iconst 1, 1) := by decide +kernel
theorem dX8_moves_11 : decode cX8_moves 11 = .ok (.invokevirtual 69, 3) := by decide +kernel
theorem dX8_moves_14 : decode cX8_moves 14 = .ok (.ireturn, 1) := by decide +kernel
theorem dX8_moves_15 : decode cX8_moves 15 = .ok (.aload_n 0, 1) := by decide +kernel
theorem dX8_moves_16 : decode cX8_moves 16 = .ok (.getfield 47, 3) := by decide +kernel
theorem dX8_moves_19 : decode cX8_moves 19 = .ok (.getfield 81, 3) := by decide +kernel
theorem dX8_moves_22 : decode cX8_moves 22 = .ok (.ifCond .ne 9, 3) := by decide +kernel
theorem dX8_moves_25 : decode cX8_moves 25 = .ok (.aload_n 0, 1) := by decide +kernel
theorem dX8_moves_26 : decode cX8_moves 26 = .ok (.iconst 3, 1) := by decide +kernel
theorem dX8_moves_27 : decode cX8_moves 27 = .ok (.invokevirtual 69, 3) := by decide +kernel
theorem dX8_moves_30 : decode cX8_moves 30 = .ok (.ireturn, 1) := by decide +kernel
theorem dX8_moves_31 : decode cX8_moves 31 = .ok (.iload_n 1, 1) := by decide +kernel
theorem dX8_moves_32 : decode cX8_moves 32 = .ok (.ifCond .ne 20, 3) := by decide +kernel
theorem dX8_moves_35 : decode cX8_moves 35 = .ok (.aload_n 0, 1) := by decide +kernel
theorem dX8_moves_36 : decode cX8_moves 36 = .ok (.getfield 24, 3) := by decide +kernel
theorem dX8_moves_39 : decode cX8_moves 39 = .ok (.aload_n 0, 1) := by decide +kernel
theorem dX8_moves_40 : decode cX8_moves 40 = .ok (.getfield 47, 3) := by decide +kernel
theorem dX8_moves_43 : decode cX8_moves 43 = .ok (.invokevirtual 168, 3) := by decide +kernel
theorem dX8_moves_46 : decode cX8_moves 46 = .ok (.invokevirtual 178, 3) := by decide +kernel
theorem dX8_moves_49 : decode cX8_moves 49 = .ok (.goto 17, 3) := by decide +kernel
theorem dX8_moves_52 : decode cX8_moves 52 = .ok (.aload_n 0, 1) := by decide +kernel
theorem dX8_moves_53 : decode cX8_moves 53 = .ok (.getfield 24, 3) := by decide +kernel
theorem dX8_moves_56 : decode cX8_moves 56 = .ok (.aload_n 0, 1) := by decide +kernel
theorem dX8_moves_57 : decode cX8_moves 57 = .ok (.getfield 47, 3) := by decide +kernel
theorem dX8_moves_60 : decode cX8_moves 60 = .ok (.invokevirtual 168, 3) := by decide +kernel
theorem dX8_moves_63 : decode cX8_moves 63 = .ok (.invokevirtual 208, 3) := by decide +kernel
theorem dX8_moves_66 : decode cX8_moves 66 = .ok (.ireturn, 1) := by decide +kernel
theorem dX8_worth_0 : decode cX8_worth 0 = .ok (.iload_n 1, 1) := by decide +kernel
theorem dX8_worth_1 : decode cX8_worth 1 = .ok (.ifCond .lt 8, 3) := by decide +kernel
theorem dX8_worth_4 : decode cX8_worth 4 = .ok (.iload_n 1, 1) := by decide +kernel
theorem dX8_worth_5 : decode cX8_worth 5 = .ok (.iconst 1, 1) := by decide +kernel
theorem dX8_worth_6 : decode cX8_worth 6 = .ok (.if_icmp .le 9, 3) := by decide +kernel
theorem dX8_worth_9 : decode cX8_worth 9 = .ok (.aload_n 0, 1) := by decide +kernel
theorem dX8_worth_10 : decode cX8_worth 10 = .ok (.iconst 1, 1) := by decide +kernel
theorem dX8_worth_11 : decode cX8_worth 11 = .ok (.invokevirtual 69, 3) := by decide +kernel
theorem dX8_worth_14 : decode cX8_worth 14 = .ok (.ireturn, 1) := by decide +kernel
theorem dX8_worth_15 : decode cX8_worth 15 = .ok (.aload_n 0, 1) := by decide +kernel
theorem dX8_worth_16 : decode cX8_worth 16 = .ok (.getfield 47, 3) := by decide +kernel
theorem dX8_worth_19 : decode cX8_worth 19 = .ok (.getfield 81, 3) := by decide +kernel
theorem dX8_worth_22 : decode cX8_worth 22 = .ok (.ifCond .ne 9, 3) := by decide +kernel
theorem dX8_worth_25 : decode cX8_worth 25 = .ok (.aload_n 0, 1) := by decide +kernel
theorem dX8_worth_26 : decode cX8_worth 26 = .ok (.iconst 3, 1) := by decide +kernel
theorem dX8_worth_27 : decode cX8_worth 27 = .ok (.invokevirtual 69, 3) := by decide +kernel
theorem dX8_worth_30 : decode cX8_worth 30 = .ok (.ireturn, 1) := by decide +kernel
theorem dX8_worth_31 : decode cX8_worth 31 = .ok (.iload_n 1, 1) := by decide +kernel
theorem dX8_worth_32 : decode cX8_worth 32 = .ok (.iconst 1, 1) := by decide +kernel
theorem dX8_worth_33 : decode cX8_worth 33 = .ok (.if_icmp .ne 20, 3) := by decide +kernel
theorem dX8_worth_36 : decode cX8_worth 36 = .ok (.aload_n 0, 1) := by decide +kernel
theorem dX8_worth_37 : decode cX8_worth 37 = .ok (.getfield 47, 3) := by decide +kernel
theorem dX8_worth_40 : decode cX8_worth 40 = .ok (.getfield 190, 3) := by decide +kernel
theorem dX8_worth_43 : decode cX8_worth 43 = .ok (.iconst 4, 1) := by decide +kernel
theorem dX8_worth_44 : decode cX8_worth 44 = .ok (.if_icmp .ne 9, 3) := by decide +kernel
theorem dX8_worth_47 : decode cX8_worth 47 = .ok (.aload_n 0, 1) := by decide +kernel
theorem dX8_worth_48 : decode cX8_worth 48 = .ok (.iconst 5, 1) := by decide +kernel
theorem dX8_worth_49 : decode cX8_worth 49 = .ok (.invokevirtual 69, 3) := by decide +kernel
theorem dX8_worth_52 : decode cX8_worth 52 = .ok (.ireturn, 1) := by decide +kernel
theorem dX8_worth_53 : decode cX8_worth 53 = .ok (.iload_n 1, 1) := by decide +kernel
theorem dX8_worth_54 : decode cX8_worth 54 = .ok (.ifCond .ne 20, 3) := by decide +kernel
theorem dX8_worth_57 : decode cX8_worth 57 = .ok (.aload_n 0, 1) := by decide +kernel
theorem dX8_worth_58 : decode cX8_worth 58 = .ok (.getfield 24, 3) := by decide +kernel
theorem dX8_worth_61 : decode cX8_worth 61 = .ok (.aload_n 0, 1) := by decide +kernel
theorem dX8_worth_62 : decode cX8_worth 62 = .ok (.getfield 47, 3) := by decide +kernel
theorem dX8_worth_65 : decode cX8_worth 65 = .ok (.invokevirtual 168, 3) := by decide +kernel
theorem dX8_worth_68 : decode cX8_worth 68 = .ok (.invokevirtual 211, 3) := by decide +kernel
theorem dX8_worth_71 : decode cX8_worth 71 = .ok (.goto 17, 3) := by decide +kernel
theorem dX8_worth_74 : decode cX8_worth 74 = .ok (.aload_n 0, 1) := by decide +kernel
theorem dX8_worth_75 : decode cX8_worth 75 = .ok (.getfield 24, 3) := by decide +kernel
theorem dX8_worth_78 : decode cX8_worth 78 = .ok (.aload_n 0, 1) := by decide +kernel
theorem dX8_worth_79 : decode cX8_worth 79 = .ok (.getfield 47, 3) := by decide +kernel
theorem dX8_worth_82 : decode cX8_worth 82 = .ok (.invokevirtual 168, 3) := by decide +kernel
theorem dX8_worth_85 : decode cX8_worth 85 = .ok (.invokevirtual 214, 3) := by decide +kernel
theorem dX8_worth_88 : decode cX8_worth 88 = .ok (.ireturn, 1) := by decide +kernel
theorem dX8_reach_0 : decode cX8_reach 0 = .ok (.aload_n 0, 1) := by decide +kernel
theorem dX8_reach_1 : decode cX8_reach 1 = .ok (.getfield 47, 3) := by decide +kernel
theorem dX8_reach_4 : decode cX8_reach 4 = .ok (.getfield 81, 3) := by decide +kernel
theorem dX8_reach_7 : decode cX8_reach 7 = .ok (.ifCond .eq 20, 3) := by decide +kernel
theorem dX8_reach_10 : decode cX8_reach 10 = .ok (.aload_n 0, 1) := by decide +kernel
theorem dX8_reach_11 : decode cX8_reach 11 = .ok (.getfield 24, 3) := by decide +kernel
theorem dX8_reach_14 : decode cX8_reach 14 = .ok (.aload_n 0, 1) := by decide +kernel
theorem dX8_reach_15 : decode cX8_reach 15 = .ok (.getfield 47, 3) := by decide +kernel
theorem dX8_reach_18 : decode cX8_reach 18 = .ok (.invokevirtual 168, 3) := by decide +kernel
theorem dX8_reach_21 : decode cX8_reach 21 = .ok (.invokevirtual 217, 3) := by decide +kernel
theorem dX8_reach_24 : decode cX8_reach 24 = .ok (.goto 8, 3) := by decide +kernel
theorem dX8_reach_27 : decode cX8_reach 27 = .ok (.aload_n 0, 1) := by decide +kernel
theorem dX8_reach_28 : decode cX8_reach 28 = .ok (.iconst 3, 1) := by decide +kernel
theorem dX8_reach_29 : decode cX8_reach 29 = .ok (.invokevirtual 69, 3) := by decide +kernel
theorem dX8_reach_32 : decode cX8_reach 32 = .ok (.ireturn, 1) := by decide +kernel
theorem dX8_starts_0 : decode cX8_starts 0 = .ok (.iload_n 1, 1) := by decide +kernel
theorem dX8_starts_1 : decode cX8_starts 1 = .ok (.invokestatic 154, 3) := by decide +kernel
theorem dX8_starts_4 : decode cX8_starts 4 = .ok (.ifCond .ne 9, 3) := by decide +kernel
theorem dX8_starts_7 : decode cX8_starts 7 = .ok (.aload_n 0, 1) := by decide +kernel
theorem dX8_starts_8 : decode cX8_starts 8 = .ok (.iconst 1, 1) := by decide +kernel
theorem dX8_starts_9 : decode cX8_starts 9 = .ok (.invokevirtual 69, 3) := by decide +kernel
theorem dX8_starts_12 : decode cX8_starts 12 = .ok (.ireturn, 1) := by decide +kernel
theorem dX8_starts_13 : decode cX8_starts 13 = .ok (.iconst 0, 1) := by decide +kernel
theorem dX8_starts_14 : decode cX8_starts 14 = .ok (.istore_n 2, 1) := by decide +kernel
theorem dX8_starts_15 : decode cX8_starts 15 = .ok (.iconst 0, 1) := by decide +kernel
theorem dX8_starts_16 : decode cX8_starts 16 = .ok (.istore_n 3, 1) := by decide +kernel
theorem dX8_starts_17 : decode cX8_starts 17 = .ok (.iload_n 3, 1) := by decide +kernel
theorem dX8_starts_18 : decode cX8_starts 18 = .ok (.aload_n 0, 1) := by decide +kernel
theorem dX8_starts_19 : decode cX8_starts 19 = .ok (.getfield 10, 3) := by decide +kernel
theorem dX8_starts_22 : decode cX8_starts 22 = .ok (.getfield 73, 3) := by decide +kernel
theorem dX8_starts_25 : decode cX8_starts 25 = .ok (.if_icmp .ge 37, 3) := by decide +kernel
theorem dX8_starts_28 : decode cX8_starts 28 = .ok (.aload_n 0, 1) := by decide +kernel
theorem dX8_starts_29 : decode cX8_starts 29 = .ok (.getfield 24, 3) := by decide +kernel
theorem dX8_starts_32 : decode cX8_starts 32 = .ok (.iload_n 1, 1) := by decide +kernel
theorem dX8_starts_33 : decode cX8_starts 33 = .ok (.invokevirtual 157, 3) := by decide +kernel
theorem dX8_starts_36 : decode cX8_starts 36 = .ok (.aload_n 0, 1) := by decide +kernel
theorem dX8_starts_37 : decode cX8_starts 37 = .ok (.getfield 24, 3) := by decide +kernel
theorem dX8_starts_40 : decode cX8_starts 40 = .ok (.iload_n 3, 1) := by decide +kernel
theorem dX8_starts_41 : decode cX8_starts 41 = .ok (.invokestatic 160, 3) := by decide +kernel
theorem dX8_starts_44 : decode cX8_starts 44 = .ok (.invokevirtual 171, 3) := by decide +kernel
theorem dX8_starts_47 : decode cX8_starts 47 = .ok (.ifCond .eq 9, 3) := by decide +kernel
theorem dX8_starts_50 : decode cX8_starts 50 = .ok (.iload_n 2, 1) := by decide +kernel
theorem dX8_starts_51 : decode cX8_starts 51 = .ok (.iconst 1, 1) := by decide +kernel
theorem dX8_starts_52 : decode cX8_starts 52 = .ok (.iload_n 3, 1) := by decide +kernel
theorem dX8_starts_53 : decode cX8_starts 53 = .ok (.ishl, 1) := by decide +kernel
theorem dX8_starts_54 : decode cX8_starts 54 = .ok (.ior, 1) := by decide +kernel
theorem dX8_starts_55 : decode cX8_starts 55 = .ok (.istore_n 2, 1) := by decide +kernel
theorem dX8_starts_56 : decode cX8_starts 56 = .ok (.iinc 3 1, 3) := by decide +kernel
theorem dX8_starts_59 : decode cX8_starts 59 = .ok (.goto (-42), 3) := by decide +kernel
theorem dX8_starts_62 : decode cX8_starts 62 = .ok (.aload_n 0, 1) := by decide +kernel
theorem dX8_starts_63 : decode cX8_starts 63 = .ok (.getfield 24, 3) := by decide +kernel
theorem dX8_starts_66 : decode cX8_starts 66 = .ok (.aload_n 0, 1) := by decide +kernel
theorem dX8_starts_67 : decode cX8_starts 67 = .ok (.getfield 47, 3) := by decide +kernel
theorem dX8_starts_70 : decode cX8_starts 70 = .ok (.getfield 190, 3) := by decide +kernel
theorem dX8_starts_73 : decode cX8_starts 73 = .ok (.invokevirtual 157, 3) := by decide +kernel
theorem dX8_starts_76 : decode cX8_starts 76 = .ok (.iload_n 2, 1) := by decide +kernel
theorem dX8_starts_77 : decode cX8_starts 77 = .ok (.ireturn, 1) := by decide +kernel
theorem dX8_tells_0 : decode cX8_tells 0 = .ok (.iload_n 1, 1) := by decide +kernel
theorem dX8_tells_1 : decode cX8_tells 1 = .ok (.invokestatic 220, 3) := by decide +kernel
theorem dX8_tells_4 : decode cX8_tells 4 = .ok (.ifCond .ne 9, 3) := by decide +kernel
theorem dX8_tells_7 : decode cX8_tells 7 = .ok (.aload_n 0, 1) := by decide +kernel
theorem dX8_tells_8 : decode cX8_tells 8 = .ok (.iconst 1, 1) := by decide +kernel
theorem dX8_tells_9 : decode cX8_tells 9 = .ok (.invokevirtual 69, 3) := by decide +kernel
theorem dX8_tells_12 : decode cX8_tells 12 = .ok (.ireturn, 1) := by decide +kernel
theorem dX8_tells_13 : decode cX8_tells 13 = .ok (.aload_n 0, 1) := by decide +kernel
theorem dX8_tells_14 : decode cX8_tells 14 = .ok (.getfield 47, 3) := by decide +kernel
theorem dX8_tells_17 : decode cX8_tells 17 = .ok (.getfield 81, 3) := by decide +kernel
theorem dX8_tells_20 : decode cX8_tells 20 = .ok (.ifCond .ne 9, 3) := by decide +kernel
theorem dX8_tells_23 : decode cX8_tells 23 = .ok (.aload_n 0, 1) := by decide +kernel
theorem dX8_tells_24 : decode cX8_tells 24 = .ok (.iconst 3, 1) := by decide +kernel
theorem dX8_tells_25 : decode cX8_tells 25 = .ok (.invokevirtual 69, 3) := by decide +kernel
theorem dX8_tells_28 : decode cX8_tells 28 = .ok (.ireturn, 1) := by decide +kernel
theorem dX8_tells_29 : decode cX8_tells 29 = .ok (.aload_n 0, 1) := by decide +kernel
theorem dX8_tells_30 : decode cX8_tells 30 = .ok (.getfield 33, 3) := by decide +kernel
theorem dX8_tells_33 : decode cX8_tells 33 = .ok (.iload_n 1, 1) := by decide +kernel
theorem dX8_tells_34 : decode cX8_tells 34 = .ok (.aload_n 0, 1) := by decide +kernel
theorem dX8_tells_35 : decode cX8_tells 35 = .ok (.getfield 47, 3) := by decide +kernel
theorem dX8_tells_38 : decode cX8_tells 38 = .ok (.invokevirtual 168, 3) := by decide +kernel
theorem dX8_tells_41 : decode cX8_tells 41 = .ok (.iconst (-1), 1) := by decide +kernel
theorem dX8_tells_42 : decode cX8_tells 42 = .ok (.invokevirtual 223, 3) := by decide +kernel
theorem dX8_tells_45 : decode cX8_tells 45 = .ok (.istore_n 2, 1) := by decide +kernel
theorem dX8_tells_46 : decode cX8_tells 46 = .ok (.iload_n 2, 1) := by decide +kernel
theorem dX8_tells_47 : decode cX8_tells 47 = .ok (.ifCond .ge 11, 3) := by decide +kernel
theorem dX8_tells_50 : decode cX8_tells 50 = .ok (.aload_n 0, 1) := by decide +kernel
theorem dX8_tells_51 : decode cX8_tells 51 = .ok (.iconst 2, 1) := by decide +kernel
theorem dX8_tells_52 : decode cX8_tells 52 = .ok (.invokevirtual 69, 3) := by decide +kernel
theorem dX8_tells_55 : decode cX8_tells 55 = .ok (.goto 4, 3) := by decide +kernel
theorem dX8_tells_58 : decode cX8_tells 58 = .ok (.iload_n 2, 1) := by decide +kernel
theorem dX8_tells_59 : decode cX8_tells 59 = .ok (.ireturn, 1) := by decide +kernel
theorem dX8_play_0 : decode cX8_play 0 = .ok (.iload_n 1, 1) := by decide +kernel
theorem dX8_play_1 : decode cX8_play 1 = .ok (.invokestatic 220, 3) := by decide +kernel
theorem dX8_play_4 : decode cX8_play 4 = .ok (.ifCond .eq 21, 3) := by decide +kernel
theorem dX8_play_7 : decode cX8_play 7 = .ok (.iload_n 2, 1) := by decide +kernel
theorem dX8_play_8 : decode cX8_play 8 = .ok (.invokestatic 220, 3) := by decide +kernel
theorem dX8_play_11 : decode cX8_play 11 = .ok (.ifCond .eq 14, 3) := by decide +kernel
theorem dX8_play_14 : decode cX8_play 14 = .ok (.iload_n 3, 1) := by decide +kernel
theorem dX8_play_15 : decode cX8_play 15 = .ok (.iconst 1, 1) := by decide +kernel
theorem dX8_play_16 : decode cX8_play 16 = .ok (.if_icmp .lt 9, 3) := by decide +kernel
theorem dX8_play_19 : decode cX8_play 19 = .ok (.iload_n 3, 1) := by decide +kernel
theorem dX8_play_20 : decode cX8_play 20 = .ok (.bipush 20, 2) := by decide +kernel
theorem dX8_play_22 : decode cX8_play 22 = .ok (.if_icmp .le 9, 3) := by decide +kernel
theorem dX8_play_25 : decode cX8_play 25 = .ok (.aload_n 0, 1) := by decide +kernel
theorem dX8_play_26 : decode cX8_play 26 = .ok (.iconst 1, 1) := by decide +kernel
theorem dX8_play_27 : decode cX8_play 27 = .ok (.invokevirtual 69, 3) := by decide +kernel
theorem dX8_play_30 : decode cX8_play 30 = .ok (.ireturn, 1) := by decide +kernel
theorem dX8_play_31 : decode cX8_play 31 = .ok (.aload_n 0, 1) := by decide +kernel
theorem dX8_play_32 : decode cX8_play 32 = .ok (.getfield 47, 3) := by decide +kernel
theorem dX8_play_35 : decode cX8_play 35 = .ok (.getfield 81, 3) := by decide +kernel
theorem dX8_play_38 : decode cX8_play 38 = .ok (.ifCond .ne 9, 3) := by decide +kernel
theorem dX8_play_41 : decode cX8_play 41 = .ok (.aload_n 0, 1) := by decide +kernel
theorem dX8_play_42 : decode cX8_play 42 = .ok (.iconst 3, 1) := by decide +kernel
theorem dX8_play_43 : decode cX8_play 43 = .ok (.invokevirtual 69, 3) := by decide +kernel
theorem dX8_play_46 : decode cX8_play 46 = .ok (.ireturn, 1) := by decide +kernel
theorem dX8_play_47 : decode cX8_play 47 = .ok (.aload_n 0, 1) := by decide +kernel
theorem dX8_play_48 : decode cX8_play 48 = .ok (.getfield 47, 3) := by decide +kernel
theorem dX8_play_51 : decode cX8_play 51 = .ok (.getfield 187, 3) := by decide +kernel
theorem dX8_play_54 : decode cX8_play 54 = .ok (.istore 4, 2) := by decide +kernel
theorem dX8_play_56 : decode cX8_play 56 = .ok (.aload_n 0, 1) := by decide +kernel
theorem dX8_play_57 : decode cX8_play 57 = .ok (.getfield 24, 3) := by decide +kernel
theorem dX8_play_60 : decode cX8_play 60 = .ok (.aload_n 0, 1) := by decide +kernel
theorem dX8_play_61 : decode cX8_play 61 = .ok (.getfield 47, 3) := by decide +kernel
theorem dX8_play_64 : decode cX8_play 64 = .ok (.invokevirtual 168, 3) := by decide +kernel
theorem dX8_play_67 : decode cX8_play 67 = .ok (.invokevirtual 178, 3) := by decide +kernel
theorem dX8_play_70 : decode cX8_play 70 = .ok (.istore 5, 2) := by decide +kernel
theorem dX8_play_72 : decode cX8_play 72 = .ok (.iconst 0, 1) := by decide +kernel
theorem dX8_play_73 : decode cX8_play 73 = .ok (.istore 6, 2) := by decide +kernel
theorem dX8_play_75 : decode cX8_play 75 = .ok (.iload 6, 2) := by decide +kernel
theorem dX8_play_77 : decode cX8_play 77 = .ok (.iload_n 3, 1) := by decide +kernel
theorem dX8_play_78 : decode cX8_play 78 = .ok (.if_icmp .ge 97, 3) := by decide +kernel
theorem dX8_play_81 : decode cX8_play 81 = .ok (.iload 5, 2) := by decide +kernel
theorem dX8_play_83 : decode cX8_play 83 = .ok (.ifCond .eq 92, 3) := by decide +kernel
theorem dX8_play_86 : decode cX8_play 86 = .ok (.aload_n 0, 1) := by decide +kernel
theorem dX8_play_87 : decode cX8_play 87 = .ok (.getfield 47, 3) := by decide +kernel
theorem dX8_play_90 : decode cX8_play 90 = .ok (.getfield 187, 3) := by decide +kernel
theorem dX8_play_93 : decode cX8_play 93 = .ok (.iconst 1, 1) := by decide +kernel
theorem dX8_play_94 : decode cX8_play 94 = .ok (.iand, 1) := by decide +kernel
theorem dX8_play_95 : decode cX8_play 95 = .ok (.ifCond .ne 7, 3) := by decide +kernel
theorem dX8_play_98 : decode cX8_play 98 = .ok (.iload_n 1, 1) := by decide +kernel
theorem dX8_play_99 : decode cX8_play 99 = .ok (.goto 4, 3) := by decide +kernel
theorem dX8_play_102 : decode cX8_play 102 = .ok (.iload_n 2, 1) := by decide +kernel
theorem dX8_play_103 : decode cX8_play 103 = .ok (.istore 7, 2) := by decide +kernel
theorem dX8_play_105 : decode cX8_play 105 = .ok (.aload_n 0, 1) := by decide +kernel
theorem dX8_play_106 : decode cX8_play 106 = .ok (.getfield 33, 3) := by decide +kernel
theorem dX8_play_109 : decode cX8_play 109 = .ok (.iload 7, 2) := by decide +kernel
theorem dX8_play_111 : decode cX8_play 111 = .ok (.aload_n 0, 1) := by decide +kernel
theorem dX8_play_112 : decode cX8_play 112 = .ok (.getfield 47, 3) := by decide +kernel
theorem dX8_play_115 : decode cX8_play 115 = .ok (.invokevirtual 168, 3) := by decide +kernel
theorem dX8_play_118 : decode cX8_play 118 = .ok (.iload 5, 2) := by decide +kernel
theorem dX8_play_120 : decode cX8_play 120 = .ok (.invokestatic 227, 3) := by decide +kernel
theorem dX8_play_123 : decode cX8_play 123 = .ok (.invokevirtual 223, 3) := by decide +kernel
theorem dX8_play_126 : decode cX8_play 126 = .ok (.istore 8, 2) := by decide +kernel
theorem dX8_play_128 : decode cX8_play 128 = .ok (.aload_n 0, 1) := by decide +kernel
theorem dX8_play_129 : decode cX8_play 129 = .ok (.getfield 47, 3) := by decide +kernel
theorem dX8_play_132 : decode cX8_play 132 = .ok (.iload 8, 2) := by decide +kernel
theorem dX8_play_134 : decode cX8_play 134 = .ok (.aload_n 0, 1) := by decide +kernel
theorem dX8_play_135 : decode cX8_play 135 = .ok (.getfield 24, 3) := by decide +kernel
theorem dX8_play_138 : decode cX8_play 138 = .ok (.aload_n 0, 1) := by decide +kernel
theorem dX8_play_139 : decode cX8_play 139 = .ok (.getfield 47, 3) := by decide +kernel
theorem dX8_play_142 : decode cX8_play 142 = .ok (.invokevirtual 168, 3) := by decide +kernel
theorem dX8_play_145 : decode cX8_play 145 = .ok (.iload 8, 2) := by decide +kernel
theorem dX8_play_147 : decode cX8_play 147 = .ok (.invokevirtual 181, 3) := by decide +kernel
theorem dX8_play_150 : decode cX8_play 150 = .ok (.invokevirtual 184, 3) := by decide +kernel
theorem dX8_play_153 : decode cX8_play 153 = .ok (.aload_n 0, 1) := by decide +kernel
theorem dX8_play_154 : decode cX8_play 154 = .ok (.getfield 24, 3) := by decide +kernel
theorem dX8_play_157 : decode cX8_play 157 = .ok (.aload_n 0, 1) := by decide +kernel
theorem dX8_play_158 : decode cX8_play 158 = .ok (.getfield 47, 3) := by decide +kernel
theorem dX8_play_161 : decode cX8_play 161 = .ok (.invokevirtual 168, 3) := by decide +kernel
theorem dX8_play_164 : decode cX8_play 164 = .ok (.invokevirtual 178, 3) := by decide +kernel
theorem dX8_play_167 : decode cX8_play 167 = .ok (.istore 5, 2) := by decide +kernel
theorem dX8_play_169 : decode cX8_play 169 = .ok (.iinc 6 1, 3) := by decide +kernel
theorem dX8_play_172 : decode cX8_play 172 = .ok (.goto (-97), 3) := by decide +kernel
theorem dX8_play_175 : decode cX8_play 175 = .ok (.aload_n 0, 1) := by decide +kernel
theorem dX8_play_176 : decode cX8_play 176 = .ok (.getfield 47, 3) := by decide +kernel
theorem dX8_play_179 : decode cX8_play 179 = .ok (.getfield 187, 3) := by decide +kernel
theorem dX8_play_182 : decode cX8_play 182 = .ok (.iload 4, 2) := by decide +kernel
theorem dX8_play_184 : decode cX8_play 184 = .ok (.isub, 1) := by decide +kernel
theorem dX8_play_185 : decode cX8_play 185 = .ok (.ireturn, 1) := by decide +kernel
theorem dX8_fight_0 : decode cX8_fight 0 = .ok (.iload_n 1, 1) := by decide +kernel
theorem dX8_fight_1 : decode cX8_fight 1 = .ok (.invokestatic 220, 3) := by decide +kernel
theorem dX8_fight_4 : decode cX8_fight 4 = .ok (.ifCond .eq 19, 3) := by decide +kernel
theorem dX8_fight_7 : decode cX8_fight 7 = .ok (.iload_n 2, 1) := by decide +kernel
theorem dX8_fight_8 : decode cX8_fight 8 = .ok (.invokestatic 220, 3) := by decide +kernel
theorem dX8_fight_11 : decode cX8_fight 11 = .ok (.ifCond .eq 12, 3) := by decide +kernel
theorem dX8_fight_14 : decode cX8_fight 14 = .ok (.iload_n 3, 1) := by decide +kernel
theorem dX8_fight_15 : decode cX8_fight 15 = .ok (.ifCond .lt 8, 3) := by decide +kernel
theorem dX8_fight_18 : decode cX8_fight 18 = .ok (.iload_n 3, 1) := by decide +kernel
theorem dX8_fight_19 : decode cX8_fight 19 = .ok (.iconst 1, 1) := by decide +kernel
theorem dX8_fight_20 : decode cX8_fight 20 = .ok (.if_icmp .le 9, 3) := by decide +kernel
theorem dX8_fight_23 : decode cX8_fight 23 = .ok (.aload_n 0, 1) := by decide +kernel
theorem dX8_fight_24 : decode cX8_fight 24 = .ok (.iconst 1, 1) := by decide +kernel
theorem dX8_fight_25 : decode cX8_fight 25 = .ok (.invokevirtual 69, 3) := by decide +kernel
theorem dX8_fight_28 : decode cX8_fight 28 = .ok (.ireturn, 1) := by decide +kernel
theorem dX8_fight_29 : decode cX8_fight 29 = .ok (.aload_n 0, 1) := by decide +kernel
theorem dX8_fight_30 : decode cX8_fight 30 = .ok (.getfield 47, 3) := by decide +kernel
theorem dX8_fight_33 : decode cX8_fight 33 = .ok (.getfield 81, 3) := by decide +kernel
theorem dX8_fight_36 : decode cX8_fight 36 = .ok (.ifCond .ne 9, 3) := by decide +kernel
theorem dX8_fight_39 : decode cX8_fight 39 = .ok (.aload_n 0, 1) := by decide +kernel
theorem dX8_fight_40 : decode cX8_fight 40 = .ok (.iconst 3, 1) := by decide +kernel
theorem dX8_fight_41 : decode cX8_fight 41 = .ok (.invokevirtual 69, 3) := by decide +kernel
theorem dX8_fight_44 : decode cX8_fight 44 = .ok (.ireturn, 1) := by decide +kernel
theorem dX8_fight_45 : decode cX8_fight 45 = .ok (.aload_n 0, 1) := by decide +kernel
theorem dX8_fight_46 : decode cX8_fight 46 = .ok (.getfield 33, 3) := by decide +kernel
theorem dX8_fight_49 : decode cX8_fight 49 = .ok (.getfield 230, 3) := by decide +kernel
theorem dX8_fight_52 : decode cX8_fight 52 = .ok (.istore 4, 2) := by decide +kernel
theorem dX8_fight_54 : decode cX8_fight 54 = .ok (.aload_n 0, 1) := by decide +kernel
theorem dX8_fight_55 : decode cX8_fight 55 = .ok (.getfield 47, 3) := by decide +kernel
theorem dX8_fight_58 : decode cX8_fight 58 = .ok (.invokevirtual 168, 3) := by decide +kernel
theorem dX8_fight_61 : decode cX8_fight 61 = .ok (.istore 5, 2) := by decide +kernel
theorem dX8_fight_63 : decode cX8_fight 63 = .ok (.aload_n 0, 1) := by decide +kernel
theorem dX8_fight_64 : decode cX8_fight 64 = .ok (.getfield 47, 3) := by decide +kernel
theorem dX8_fight_67 : decode cX8_fight 67 = .ok (.getfield 187, 3) := by decide +kernel
theorem dX8_fight_70 : decode cX8_fight 70 = .ok (.istore 6, 2) := by decide +kernel
theorem dX8_fight_72 : decode cX8_fight 72 = .ok (.aload_n 0, 1) := by decide +kernel
theorem dX8_fight_73 : decode cX8_fight 73 = .ok (.getfield 24, 3) := by decide +kernel
theorem dX8_fight_76 : decode cX8_fight 76 = .ok (.iload 5, 2) := by decide +kernel
theorem dX8_fight_78 : decode cX8_fight 78 = .ok (.invokevirtual 178, 3) := by decide +kernel
theorem dX8_fight_81 : decode cX8_fight 81 = .ok (.istore 7, 2) := by decide +kernel
theorem dX8_fight_83 : decode cX8_fight 83 = .ok (.iconst 0, 1) := by decide +kernel
theorem dX8_fight_84 : decode cX8_fight 84 = .ok (.istore 8, 2) := by decide +kernel
theorem dX8_fight_86 : decode cX8_fight 86 = .ok (.iload 8, 2) := by decide +kernel
theorem dX8_fight_88 : decode cX8_fight 88 = .ok (.bipush 12, 2) := by decide +kernel
theorem dX8_fight_90 : decode cX8_fight 90 = .ok (.if_icmp .ge 69, 3) := by decide +kernel
theorem dX8_fight_93 : decode cX8_fight 93 = .ok (.iload 7, 2) := by decide +kernel
theorem dX8_fight_95 : decode cX8_fight 95 = .ok (.ifCond .eq 64, 3) := by decide +kernel
theorem dX8_fight_98 : decode cX8_fight 98 = .ok (.iload 6, 2) := by decide +kernel
theorem dX8_fight_100 : decode cX8_fight 100 = .ok (.iconst 1, 1) := by decide +kernel
theorem dX8_fight_101 : decode cX8_fight 101 = .ok (.iand, 1) := by decide +kernel
theorem dX8_fight_102 : decode cX8_fight 102 = .ok (.ifCond .ne 7, 3) := by decide +kernel
theorem dX8_fight_105 : decode cX8_fight 105 = .ok (.iload_n 1, 1) := by decide +kernel
theorem dX8_fight_106 : decode cX8_fight 106 = .ok (.goto 4, 3) := by decide +kernel
theorem dX8_fight_109 : decode cX8_fight 109 = .ok (.iload_n 2, 1) := by decide +kernel
theorem dX8_fight_110 : decode cX8_fight 110 = .ok (.istore 9, 2) := by decide +kernel
theorem dX8_fight_112 : decode cX8_fight 112 = .ok (.aload_n 0, 1) := by decide +kernel
theorem dX8_fight_113 : decode cX8_fight 113 = .ok (.getfield 24, 3) := by decide +kernel
theorem dX8_fight_116 : decode cX8_fight 116 = .ok (.iload 5, 2) := by decide +kernel
theorem dX8_fight_118 : decode cX8_fight 118 = .ok (.aload_n 0, 1) := by decide +kernel
theorem dX8_fight_119 : decode cX8_fight 119 = .ok (.getfield 33, 3) := by decide +kernel
theorem dX8_fight_122 : decode cX8_fight 122 = .ok (.iload 9, 2) := by decide +kernel
theorem dX8_fight_124 : decode cX8_fight 124 = .ok (.iload 5, 2) := by decide +kernel
theorem dX8_fight_126 : decode cX8_fight 126 = .ok (.iload 7, 2) := by decide +kernel
theorem dX8_fight_128 : decode cX8_fight 128 = .ok (.invokestatic 227, 3) := by decide +kernel
theorem dX8_fight_131 : decode cX8_fight 131 = .ok (.invokevirtual 223, 3) := by decide +kernel
theorem dX8_fight_134 : decode cX8_fight 134 = .ok (.invokevirtual 181, 3) := by decide +kernel
theorem dX8_fight_137 : decode cX8_fight 137 = .ok (.istore 5, 2) := by decide +kernel
theorem dX8_fight_139 : decode cX8_fight 139 = .ok (.iinc 6 1, 3) := by decide +kernel
theorem dX8_fight_142 : decode cX8_fight 142 = .ok (.aload_n 0, 1) := by decide +kernel
theorem dX8_fight_143 : decode cX8_fight 143 = .ok (.getfield 24, 3) := by decide +kernel
theorem dX8_fight_146 : decode cX8_fight 146 = .ok (.iload 5, 2) := by decide +kernel
theorem dX8_fight_148 : decode cX8_fight 148 = .ok (.invokevirtual 178, 3) := by decide +kernel
theorem dX8_fight_151 : decode cX8_fight 151 = .ok (.istore 7, 2) := by decide +kernel
theorem dX8_fight_153 : decode cX8_fight 153 = .ok (.iinc 8 1, 3) := by decide +kernel
theorem dX8_fight_156 : decode cX8_fight 156 = .ok (.goto (-70), 3) := by decide +kernel
theorem dX8_fight_159 : decode cX8_fight 159 = .ok (.aload_n 0, 1) := by decide +kernel
theorem dX8_fight_160 : decode cX8_fight 160 = .ok (.getfield 33, 3) := by decide +kernel
theorem dX8_fight_163 : decode cX8_fight 163 = .ok (.iload 4, 2) := by decide +kernel
theorem dX8_fight_165 : decode cX8_fight 165 = .ok (.putfield 230, 3) := by decide +kernel
theorem dX8_fight_168 : decode cX8_fight 168 = .ok (.iload_n 3, 1) := by decide +kernel
theorem dX8_fight_169 : decode cX8_fight 169 = .ok (.ifCond .ne 19, 3) := by decide +kernel
theorem dX8_fight_172 : decode cX8_fight 172 = .ok (.aload_n 0, 1) := by decide +kernel
theorem dX8_fight_173 : decode cX8_fight 173 = .ok (.getfield 24, 3) := by decide +kernel
theorem dX8_fight_176 : decode cX8_fight 176 = .ok (.iload 5, 2) := by decide +kernel
theorem dX8_fight_178 : decode cX8_fight 178 = .ok (.iload 6, 2) := by decide +kernel
theorem dX8_fight_180 : decode cX8_fight 180 = .ok (.iconst 1, 1) := by decide +kernel
theorem dX8_fight_181 : decode cX8_fight 181 = .ok (.iand, 1) := by decide +kernel
theorem dX8_fight_182 : decode cX8_fight 182 = .ok (.invokevirtual 202, 3) := by decide +kernel
theorem dX8_fight_185 : decode cX8_fight 185 = .ok (.goto 13, 3) := by decide +kernel
theorem dX8_fight_188 : decode cX8_fight 188 = .ok (.iload 6, 2) := by decide +kernel
theorem dX8_fight_190 : decode cX8_fight 190 = .ok (.aload_n 0, 1) := by decide +kernel
theorem dX8_fight_191 : decode cX8_fight 191 = .ok (.getfield 47, 3) := by decide +kernel
theorem dX8_fight_194 : decode cX8_fight 194 = .ok (.getfield 187, 3) := by decide +kernel
theorem dX8_fight_197 : decode cX8_fight 197 = .ok (.isub, 1) := by decide +kernel
theorem dX8_fight_198 : decode cX8_fight 198 = .ok (.ireturn, 1) := by decide +kernel
theorem dX8_tree_0 : decode cX8_tree 0 = .ok (.iload_n 1, 1) := by decide +kernel
theorem dX8_tree_1 : decode cX8_tree 1 = .ok (.ifCond .lt 8, 3) := by decide +kernel
theorem dX8_tree_4 : decode cX8_tree 4 = .ok (.iload_n 1, 1) := by decide +kernel
theorem dX8_tree_5 : decode cX8_tree 5 = .ok (.iconst 2, 1) := by decide +kernel
theorem dX8_tree_6 : decode cX8_tree 6 = .ok (.if_icmp .le 9, 3) := by decide +kernel
theorem dX8_tree_9 : decode cX8_tree 9 = .ok (.aload_n 0, 1) := by decide +kernel
theorem dX8_tree_10 : decode cX8_tree 10 = .ok (.iconst 1, 1) := by decide +kernel
theorem dX8_tree_11 : decode cX8_tree 11 = .ok (.invokevirtual 69, 3) := by decide +kernel
theorem dX8_tree_14 : decode cX8_tree 14 = .ok (.ireturn, 1) := by decide +kernel
theorem dX8_tree_15 : decode cX8_tree 15 = .ok (.aload_n 0, 1) := by decide +kernel
theorem dX8_tree_16 : decode cX8_tree 16 = .ok (.getfield 47, 3) := by decide +kernel
theorem dX8_tree_19 : decode cX8_tree 19 = .ok (.getfield 81, 3) := by decide +kernel
theorem dX8_tree_22 : decode cX8_tree 22 = .ok (.ifCond .ne 9, 3) := by decide +kernel
theorem dX8_tree_25 : decode cX8_tree 25 = .ok (.aload_n 0, 1) := by decide +kernel
theorem dX8_tree_26 : decode cX8_tree 26 = .ok (.iconst 3, 1) := by decide +kernel
theorem dX8_tree_27 : decode cX8_tree 27 = .ok (.invokevirtual 69, 3) := by decide +kernel
theorem dX8_tree_30 : decode cX8_tree 30 = .ok (.ireturn, 1) := by decide +kernel
theorem dX8_tree_31 : decode cX8_tree 31 = .ok (.aload_n 0, 1) := by decide +kernel
theorem dX8_tree_32 : decode cX8_tree 32 = .ok (.getfield 40, 3) := by decide +kernel
theorem dX8_tree_35 : decode cX8_tree 35 = .ok (.aload_n 0, 1) := by decide +kernel
theorem dX8_tree_36 : decode cX8_tree 36 = .ok (.getfield 47, 3) := by decide +kernel
theorem dX8_tree_39 : decode cX8_tree 39 = .ok (.invokevirtual 168, 3) := by decide +kernel
theorem dX8_tree_42 : decode cX8_tree 42 = .ok (.invokevirtual 233, 3) := by decide +kernel
theorem dX8_tree_45 : decode cX8_tree 45 = .ok (.ifCond .ne 9, 3) := by decide +kernel
theorem dX8_tree_48 : decode cX8_tree 48 = .ok (.aload_n 0, 1) := by decide +kernel
theorem dX8_tree_49 : decode cX8_tree 49 = .ok (.iconst 4, 1) := by decide +kernel
theorem dX8_tree_50 : decode cX8_tree 50 = .ok (.invokevirtual 69, 3) := by decide +kernel
theorem dX8_tree_53 : decode cX8_tree 53 = .ok (.ireturn, 1) := by decide +kernel
theorem dX8_tree_54 : decode cX8_tree 54 = .ok (.iload_n 1, 1) := by decide +kernel
theorem dX8_tree_55 : decode cX8_tree 55 = .ok (.ifCond .ne 11, 3) := by decide +kernel
theorem dX8_tree_58 : decode cX8_tree 58 = .ok (.aload_n 0, 1) := by decide +kernel
theorem dX8_tree_59 : decode cX8_tree 59 = .ok (.getfield 40, 3) := by decide +kernel
theorem dX8_tree_62 : decode cX8_tree 62 = .ok (.getfield 236, 3) := by decide +kernel
theorem dX8_tree_65 : decode cX8_tree 65 = .ok (.ireturn, 1) := by decide +kernel
theorem dX8_tree_66 : decode cX8_tree 66 = .ok (.iload_n 1, 1) := by decide +kernel
theorem dX8_tree_67 : decode cX8_tree 67 = .ok (.iconst 1, 1) := by decide +kernel
theorem dX8_tree_68 : decode cX8_tree 68 = .ok (.if_icmp .ne 13, 3) := by decide +kernel
theorem dX8_tree_71 : decode cX8_tree 71 = .ok (.aload_n 0, 1) := by decide +kernel
theorem dX8_tree_72 : decode cX8_tree 72 = .ok (.getfield 40, 3) := by decide +kernel
theorem dX8_tree_75 : decode cX8_tree 75 = .ok (.getfield 239, 3) := by decide +kernel
theorem dX8_tree_78 : decode cX8_tree 78 = .ok (.goto 10, 3) := by decide +kernel
theorem dX8_tree_81 : decode cX8_tree 81 = .ok (.aload_n 0, 1) := by decide +kernel
theorem dX8_tree_82 : decode cX8_tree 82 = .ok (.getfield 40, 3) := by decide +kernel
theorem dX8_tree_85 : decode cX8_tree 85 = .ok (.getfield 242, 3) := by decide +kernel
theorem dX8_tree_88 : decode cX8_tree 88 = .ok (.ireturn, 1) := by decide +kernel
theorem dX8_node_0 : decode cX8_node 0 = .ok (.aload_n 0, 1) := by decide +kernel
theorem dX8_node_1 : decode cX8_node 1 = .ok (.getfield 47, 3) := by decide +kernel
theorem dX8_node_4 : decode cX8_node 4 = .ok (.getfield 81, 3) := by decide +kernel
theorem dX8_node_7 : decode cX8_node 7 = .ok (.ifCond .ne 9, 3) := by decide +kernel
theorem dX8_node_10 : decode cX8_node 10 = .ok (.aload_n 0, 1) := by decide +kernel
theorem dX8_node_11 : decode cX8_node 11 = .ok (.iconst 3, 1) := by decide +kernel
theorem dX8_node_12 : decode cX8_node 12 = .ok (.invokevirtual 69, 3) := by decide +kernel
theorem dX8_node_15 : decode cX8_node 15 = .ok (.ireturn, 1) := by decide +kernel
theorem dX8_node_16 : decode cX8_node 16 = .ok (.aload_n 0, 1) := by decide +kernel
theorem dX8_node_17 : decode cX8_node 17 = .ok (.getfield 40, 3) := by decide +kernel
theorem dX8_node_20 : decode cX8_node 20 = .ok (.aload_n 0, 1) := by decide +kernel
theorem dX8_node_21 : decode cX8_node 21 = .ok (.getfield 47, 3) := by decide +kernel
theorem dX8_node_24 : decode cX8_node 24 = .ok (.invokevirtual 168, 3) := by decide +kernel
theorem dX8_node_27 : decode cX8_node 27 = .ok (.invokevirtual 233, 3) := by decide +kernel
theorem dX8_node_30 : decode cX8_node 30 = .ok (.ifCond .ne 9, 3) := by decide +kernel
theorem dX8_node_33 : decode cX8_node 33 = .ok (.aload_n 0, 1) := by decide +kernel
theorem dX8_node_34 : decode cX8_node 34 = .ok (.iconst 4, 1) := by decide +kernel
theorem dX8_node_35 : decode cX8_node 35 = .ok (.invokevirtual 69, 3) := by decide +kernel
theorem dX8_node_38 : decode cX8_node 38 = .ok (.ireturn, 1) := by decide +kernel
theorem dX8_node_39 : decode cX8_node 39 = .ok (.iload_n 1, 1) := by decide +kernel
theorem dX8_node_40 : decode cX8_node 40 = .ok (.iconst 1, 1) := by decide +kernel
theorem dX8_node_41 : decode cX8_node 41 = .ok (.if_icmp .lt 14, 3) := by decide +kernel
theorem dX8_node_44 : decode cX8_node 44 = .ok (.iload_n 1, 1) := by decide +kernel
theorem dX8_node_45 : decode cX8_node 45 = .ok (.aload_n 0, 1) := by decide +kernel
theorem dX8_node_46 : decode cX8_node 46 = .ok (.getfield 40, 3) := by decide +kernel
theorem dX8_node_49 : decode cX8_node 49 = .ok (.getfield 236, 3) := by decide +kernel
theorem dX8_node_52 : decode cX8_node 52 = .ok (.if_icmp .lt 9, 3) := by decide +kernel
theorem dX8_node_55 : decode cX8_node 55 = .ok (.aload_n 0, 1) := by decide +kernel
theorem dX8_node_56 : decode cX8_node 56 = .ok (.iconst 2, 1) := by decide +kernel
theorem dX8_node_57 : decode cX8_node 57 = .ok (.invokevirtual 69, 3) := by decide +kernel
theorem dX8_node_60 : decode cX8_node 60 = .ok (.ireturn, 1) := by decide +kernel
theorem dX8_node_61 : decode cX8_node 61 = .ok (.aload_n 0, 1) := by decide +kernel
theorem dX8_node_62 : decode cX8_node 62 = .ok (.getfield 40, 3) := by decide +kernel
theorem dX8_node_65 : decode cX8_node 65 = .ok (.getfield 245, 3) := by decide +kernel
theorem dX8_node_68 : decode cX8_node 68 = .ok (.iload_n 1, 1) := by decide +kernel
theorem dX8_node_69 : decode cX8_node 69 = .ok (.iaload, 1) := by decide +kernel
theorem dX8_node_70 : decode cX8_node 70 = .ok (.ireturn, 1) := by decide +kernel
theorem dX8_sheet_0 : decode cX8_sheet 0 = .ok (.iload_n 1, 1) := by decide +kernel
theorem dX8_sheet_1 : decode cX8_sheet 1 = .ok (.invokestatic 246, 3) := by decide +kernel
theorem dX8_sheet_4 : decode cX8_sheet 4 = .ok (.ifCond .eq 25, 3) := by decide +kernel
theorem dX8_sheet_7 : decode cX8_sheet 7 = .ok (.iload_n 2, 1) := by decide +kernel
theorem dX8_sheet_8 : decode cX8_sheet 8 = .ok (.ifCond .eq 27, 3) := by decide +kernel
theorem dX8_sheet_11 : decode cX8_sheet 11 = .ok (.iload_n 2, 1) := by decide +kernel
theorem dX8_sheet_12 : decode cX8_sheet 12 = .ok (.bipush 8, 2) := by decide +kernel
theorem dX8_sheet_14 : decode cX8_sheet 14 = .ok (.if_icmp .eq 21, 3) := by decide +kernel
theorem dX8_sheet_17 : decode cX8_sheet 17 = .ok (.iload_n 2, 1) := by decide +kernel
theorem dX8_sheet_18 : decode cX8_sheet 18 = .ok (.bipush 16, 2) := by decide +kernel
theorem dX8_sheet_20 : decode cX8_sheet 20 = .ok (.if_icmp .eq 15, 3) := by decide +kernel
theorem dX8_sheet_23 : decode cX8_sheet 23 = .ok (.iload_n 2, 1) := by decide +kernel
theorem dX8_sheet_24 : decode cX8_sheet 24 = .ok (.bipush 32, 2) := by decide +kernel
theorem dX8_sheet_26 : decode cX8_sheet 26 = .ok (.if_icmp .eq 9, 3) := by decide +kernel
theorem dX8_sheet_29 : decode cX8_sheet 29 = .ok (.aload_n 0, 1) := by decide +kernel
theorem dX8_sheet_30 : decode cX8_sheet 30 = .ok (.iconst 1, 1) := by decide +kernel
theorem dX8_sheet_31 : decode cX8_sheet 31 = .ok (.invokevirtual 69, 3) := by decide +kernel
theorem dX8_sheet_34 : decode cX8_sheet 34 = .ok (.ireturn, 1) := by decide +kernel
theorem dX8_sheet_35 : decode cX8_sheet 35 = .ok (.iload_n 2, 1) := by decide +kernel
theorem dX8_sheet_36 : decode cX8_sheet 36 = .ok (.ifCond .eq 13, 3) := by decide +kernel
theorem dX8_sheet_39 : decode cX8_sheet 39 = .ok (.iload_n 3, 1) := by decide +kernel
theorem dX8_sheet_40 : decode cX8_sheet 40 = .ok (.ifCond .ge 9, 3) := by decide +kernel
theorem dX8_sheet_43 : decode cX8_sheet 43 = .ok (.aload_n 0, 1) := by decide +kernel
theorem dX8_sheet_44 : decode cX8_sheet 44 = .ok (.iconst 3, 1) := by decide +kernel
theorem dX8_sheet_45 : decode cX8_sheet 45 = .ok (.invokevirtual 69, 3) := by decide +kernel
theorem dX8_sheet_48 : decode cX8_sheet 48 = .ok (.ireturn, 1) := by decide +kernel
theorem dX8_sheet_49 : decode cX8_sheet 49 = .ok (.iload_n 2, 1) := by decide +kernel
theorem dX8_sheet_50 : decode cX8_sheet 50 = .ok (.ifCond .eq 15, 3) := by decide +kernel
theorem dX8_sheet_53 : decode cX8_sheet 53 = .ok (.iload_n 3, 1) := by decide +kernel
theorem dX8_sheet_54 : decode cX8_sheet 54 = .ok (.bipush 24, 2) := by decide +kernel
theorem dX8_sheet_56 : decode cX8_sheet 56 = .ok (.if_icmp .le 9, 3) := by decide +kernel
theorem dX8_sheet_59 : decode cX8_sheet 59 = .ok (.aload_n 0, 1) := by decide +kernel
theorem dX8_sheet_60 : decode cX8_sheet 60 = .ok (.iconst 1, 1) := by decide +kernel
theorem dX8_sheet_61 : decode cX8_sheet 61 = .ok (.invokevirtual 69, 3) := by decide +kernel
theorem dX8_sheet_64 : decode cX8_sheet 64 = .ok (.ireturn, 1) := by decide +kernel
theorem dX8_sheet_65 : decode cX8_sheet 65 = .ok (.aload_n 0, 1) := by decide +kernel
theorem dX8_sheet_66 : decode cX8_sheet 66 = .ok (.getfield 60, 3) := by decide +kernel
theorem dX8_sheet_69 : decode cX8_sheet 69 = .ok (.iload_n 1, 1) := by decide +kernel
theorem dX8_sheet_70 : decode cX8_sheet 70 = .ok (.aaload, 1) := by decide +kernel
theorem dX8_sheet_71 : decode cX8_sheet 71 = .ok (.iload_n 2, 1) := by decide +kernel
theorem dX8_sheet_72 : decode cX8_sheet 72 = .ok (.iload_n 2, 1) := by decide +kernel
theorem dX8_sheet_73 : decode cX8_sheet 73 = .ok (.ifCond .ne 7, 3) := by decide +kernel
theorem dX8_sheet_76 : decode cX8_sheet 76 = .ok (.iconst 0, 1) := by decide +kernel
theorem dX8_sheet_77 : decode cX8_sheet 77 = .ok (.goto 4, 3) := by decide +kernel
theorem dX8_sheet_80 : decode cX8_sheet 80 = .ok (.iload_n 3, 1) := by decide +kernel
theorem dX8_sheet_81 : decode cX8_sheet 81 = .ok (.invokevirtual 249, 3) := by decide +kernel
theorem dX8_sheet_84 : decode cX8_sheet 84 = .ok (.iconst 1, 1) := by decide +kernel
theorem dX8_sheet_85 : decode cX8_sheet 85 = .ok (.ireturn, 1) := by decide +kernel
theorem dX8_put_0 : decode cX8_put 0 = .ok (.aload_n 0, 1) := by decide +kernel
theorem dX8_put_1 : decode cX8_put 1 = .ok (.iload_n 1, 1) := by decide +kernel
theorem dX8_put_2 : decode cX8_put 2 = .ok (.iload_n 2, 1) := by decide +kernel
theorem dX8_put_3 : decode cX8_put 3 = .ok (.invokevirtual 252, 3) := by decide +kernel
theorem dX8_put_6 : decode cX8_put 6 = .ok (.istore 4, 2) := by decide +kernel
theorem dX8_put_8 : decode cX8_put 8 = .ok (.iload 4, 2) := by decide +kernel
theorem dX8_put_10 : decode cX8_put 10 = .ok (.ifCond .eq 10, 3) := by decide +kernel
theorem dX8_put_13 : decode cX8_put 13 = .ok (.aload_n 0, 1) := by decide +kernel
theorem dX8_put_14 : decode cX8_put 14 = .ok (.iload 4, 2) := by decide +kernel
theorem dX8_put_16 : decode cX8_put 16 = .ok (.invokevirtual 69, 3) := by decide +kernel
theorem dX8_put_19 : decode cX8_put 19 = .ok (.ireturn, 1) := by decide +kernel
theorem dX8_put_20 : decode cX8_put 20 = .ok (.aload_n 0, 1) := by decide +kernel
theorem dX8_put_21 : decode cX8_put 21 = .ok (.getfield 60, 3) := by decide +kernel
theorem dX8_put_24 : decode cX8_put 24 = .ok (.iload_n 1, 1) := by decide +kernel
theorem dX8_put_25 : decode cX8_put 25 = .ok (.aaload, 1) := by decide +kernel
theorem dX8_put_26 : decode cX8_put 26 = .ok (.iload_n 2, 1) := by decide +kernel
theorem dX8_put_27 : decode cX8_put 27 = .ok (.iload_n 3, 1) := by decide +kernel
theorem dX8_put_28 : decode cX8_put 28 = .ok (.invokevirtual 255, 3) := by decide +kernel
theorem dX8_put_31 : decode cX8_put 31 = .ok (.iconst 1, 1) := by decide +kernel
theorem dX8_put_32 : decode cX8_put 32 = .ok (.ireturn, 1) := by decide +kernel
theorem dX8_number_0 : decode cX8_number 0 = .ok (.aload_n 0, 1) := by decide +kernel
theorem dX8_number_1 : decode cX8_number 1 = .ok (.iload_n 1, 1) := by decide +kernel
theorem dX8_number_2 : decode cX8_number 2 = .ok (.iload_n 2, 1) := by decide +kernel
theorem dX8_number_3 : decode cX8_number 3 = .ok (.invokevirtual 252, 3) := by decide +kernel
theorem dX8_number_6 : decode cX8_number 6 = .ok (.istore_n 3, 1) := by decide +kernel
theorem dX8_number_7 : decode cX8_number 7 = .ok (.iload_n 3, 1) := by decide +kernel
theorem dX8_number_8 : decode cX8_number 8 = .ok (.ifCond .eq 11, 3) := by decide +kernel
theorem dX8_number_11 : decode cX8_number 11 = .ok (.aload_n 0, 1) := by decide +kernel
theorem dX8_number_12 : decode cX8_number 12 = .ok (.iload_n 3, 1) := by decide +kernel
theorem dX8_number_13 : decode cX8_number 13 = .ok (.invokevirtual 69, 3) := by decide +kernel
theorem dX8_number_16 : decode cX8_number 16 = .ok (.goto 14, 3) := by decide +kernel
theorem dX8_number_19 : decode cX8_number 19 = .ok (.aload_n 0, 1) := by decide +kernel
theorem dX8_number_20 : decode cX8_number 20 = .ok (.getfield 60, 3) := by decide +kernel
theorem dX8_number_23 : decode cX8_number 23 = .ok (.iload_n 1, 1) := by decide +kernel
theorem dX8_number_24 : decode cX8_number 24 = .ok (.aaload, 1) := by decide +kernel
theorem dX8_number_25 : decode cX8_number 25 = .ok (.getfield 258, 3) := by decide +kernel
theorem dX8_number_28 : decode cX8_number 28 = .ok (.iload_n 2, 1) := by decide +kernel
theorem dX8_number_29 : decode cX8_number 29 = .ok (.iaload, 1) := by decide +kernel
theorem dX8_number_30 : decode cX8_number 30 = .ok (.ireturn, 1) := by decide +kernel
theorem dX8_copy_0 : decode cX8_copy 0 = .ok (.iload_n 1, 1) := by decide +kernel
theorem dX8_copy_1 : decode cX8_copy 1 = .ok (.invokestatic 246, 3) := by decide +kernel
theorem dX8_copy_4 : decode cX8_copy 4 = .ok (.ifCond .eq 10, 3) := by decide +kernel
theorem dX8_copy_7 : decode cX8_copy 7 = .ok (.iload_n 3, 1) := by decide +kernel
theorem dX8_copy_8 : decode cX8_copy 8 = .ok (.invokestatic 246, 3) := by decide +kernel
theorem dX8_copy_11 : decode cX8_copy 11 = .ok (.ifCond .ne 9, 3) := by decide +kernel
theorem dX8_copy_14 : decode cX8_copy 14 = .ok (.aload_n 0, 1) := by decide +kernel
theorem dX8_copy_15 : decode cX8_copy 15 = .ok (.iconst 1, 1) := by decide +kernel
theorem dX8_copy_16 : decode cX8_copy 16 = .ok (.invokevirtual 69, 3) := by decide +kernel
theorem dX8_copy_19 : decode cX8_copy 19 = .ok (.ireturn, 1) := by decide +kernel
theorem dX8_copy_20 : decode cX8_copy 20 = .ok (.aload_n 0, 1) := by decide +kernel
theorem dX8_copy_21 : decode cX8_copy 21 = .ok (.getfield 60, 3) := by decide +kernel
theorem dX8_copy_24 : decode cX8_copy 24 = .ok (.iload_n 1, 1) := by decide +kernel
theorem dX8_copy_25 : decode cX8_copy 25 = .ok (.aaload, 1) := by decide +kernel
theorem dX8_copy_26 : decode cX8_copy 26 = .ok (.astore 6, 2) := by decide +kernel
theorem dX8_copy_28 : decode cX8_copy 28 = .ok (.aload_n 0, 1) := by decide +kernel
theorem dX8_copy_29 : decode cX8_copy 29 = .ok (.getfield 60, 3) := by decide +kernel
theorem dX8_copy_32 : decode cX8_copy 32 = .ok (.iload_n 3, 1) := by decide +kernel
theorem dX8_copy_33 : decode cX8_copy 33 = .ok (.aaload, 1) := by decide +kernel
theorem dX8_copy_34 : decode cX8_copy 34 = .ok (.astore 7, 2) := by decide +kernel
theorem dX8_copy_36 : decode cX8_copy 36 = .ok (.aload 6, 2) := by decide +kernel
theorem dX8_copy_38 : decode cX8_copy 38 = .ok (.invokevirtual 261, 3) := by decide +kernel
theorem dX8_copy_41 : decode cX8_copy 41 = .ok (.ifCond .ne 11, 3) := by decide +kernel
theorem dX8_copy_44 : decode cX8_copy 44 = .ok (.aload 7, 2) := by decide +kernel
theorem dX8_copy_46 : decode cX8_copy 46 = .ok (.invokevirtual 261, 3) := by decide +kernel
theorem dX8_copy_49 : decode cX8_copy 49 = .ok (.ifCond .eq 10, 3) := by decide +kernel
theorem dX8_copy_52 : decode cX8_copy 52 = .ok (.aload_n 0, 1) := by decide +kernel
theorem dX8_copy_53 : decode cX8_copy 53 = .ok (.bipush 6, 2) := by decide +kernel
theorem dX8_copy_55 : decode cX8_copy 55 = .ok (.invokevirtual 69, 3) := by decide +kernel
theorem dX8_copy_58 : decode cX8_copy 58 = .ok (.ireturn, 1) := by decide +kernel
theorem dX8_copy_59 : decode cX8_copy 59 = .ok (.aload 6, 2) := by decide +kernel
theorem dX8_copy_61 : decode cX8_copy 61 = .ok (.getfield 264, 3) := by decide +kernel
theorem dX8_copy_64 : decode cX8_copy 64 = .ok (.aload 7, 2) := by decide +kernel
theorem dX8_copy_66 : decode cX8_copy 66 = .ok (.getfield 264, 3) := by decide +kernel
theorem dX8_copy_69 : decode cX8_copy 69 = .ok (.if_icmp .eq 9, 3) := by decide +kernel
theorem dX8_copy_72 : decode cX8_copy 72 = .ok (.aload_n 0, 1) := by decide +kernel
theorem dX8_copy_73 : decode cX8_copy 73 = .ok (.iconst 5, 1) := by decide +kernel
theorem dX8_copy_74 : decode cX8_copy 74 = .ok (.invokevirtual 69, 3) := by decide +kernel
theorem dX8_copy_77 : decode cX8_copy 77 = .ok (.ireturn, 1) := by decide +kernel
theorem dX8_copy_78 : decode cX8_copy 78 = .ok (.aload 6, 2) := by decide +kernel
theorem dX8_copy_80 : decode cX8_copy 80 = .ok (.iload_n 2, 1) := by decide +kernel
theorem dX8_copy_81 : decode cX8_copy 81 = .ok (.iload 5, 2) := by decide +kernel
theorem dX8_copy_83 : decode cX8_copy 83 = .ok (.invokevirtual 267, 3) := by decide +kernel
theorem dX8_copy_86 : decode cX8_copy 86 = .ok (.ifCond .eq 15, 3) := by decide +kernel
theorem dX8_copy_89 : decode cX8_copy 89 = .ok (.aload 7, 2) := by decide +kernel
theorem dX8_copy_91 : decode cX8_copy 91 = .ok (.iload 4, 2) := by decide +kernel
theorem dX8_copy_93 : decode cX8_copy 93 = .ok (.iload 5, 2) := by decide +kernel
theorem dX8_copy_95 : decode cX8_copy 95 = .ok (.invokevirtual 267, 3) := by decide +kernel
theorem dX8_copy_98 : decode cX8_copy 98 = .ok (.ifCond .ne 9, 3) := by decide +kernel
theorem dX8_copy_101 : decode cX8_copy 101 = .ok (.aload_n 0, 1) := by decide +kernel
theorem dX8_copy_102 : decode cX8_copy 102 = .ok (.iconst 1, 1) := by decide +kernel
theorem dX8_copy_103 : decode cX8_copy 103 = .ok (.invokevirtual 69, 3) := by decide +kernel
theorem dX8_copy_106 : decode cX8_copy 106 = .ok (.ireturn, 1) := by decide +kernel
theorem dX8_copy_107 : decode cX8_copy 107 = .ok (.aload 6, 2) := by decide +kernel
theorem dX8_copy_109 : decode cX8_copy 109 = .ok (.getfield 258, 3) := by decide +kernel
theorem dX8_copy_112 : decode cX8_copy 112 = .ok (.iload_n 2, 1) := by decide +kernel
theorem dX8_copy_113 : decode cX8_copy 113 = .ok (.aload 7, 2) := by decide +kernel
theorem dX8_copy_115 : decode cX8_copy 115 = .ok (.getfield 258, 3) := by decide +kernel
theorem dX8_copy_118 : decode cX8_copy 118 = .ok (.iload 4, 2) := by decide +kernel
theorem dX8_copy_120 : decode cX8_copy 120 = .ok (.iload 5, 2) := by decide +kernel
theorem dX8_copy_122 : decode cX8_copy 122 = .ok (.invokestatic 271, 3) := by decide +kernel
theorem dX8_copy_125 : decode cX8_copy 125 = .ok (.iload 5, 2) := by decide +kernel
theorem dX8_copy_127 : decode cX8_copy 127 = .ok (.ireturn, 1) := by decide +kernel
theorem dX8_degrees_0 : decode cX8_degrees 0 = .ok (.iload_n 1, 1) := by decide +kernel
theorem dX8_degrees_1 : decode cX8_degrees 1 = .ok (.invokestatic 246, 3) := by decide +kernel
theorem dX8_degrees_4 : decode cX8_degrees 4 = .ok (.ifCond .eq 12, 3) := by decide +kernel
theorem dX8_degrees_7 : decode cX8_degrees 7 = .ok (.iload_n 2, 1) := by decide +kernel
theorem dX8_degrees_8 : decode cX8_degrees 8 = .ok (.ifCond .lt 8, 3) := by decide +kernel
theorem dX8_degrees_11 : decode cX8_degrees 11 = .ok (.iload_n 2, 1) := by decide +kernel
theorem dX8_degrees_12 : decode cX8_degrees 12 = .ok (.iconst 2, 1) := by decide +kernel
theorem dX8_degrees_13 : decode cX8_degrees 13 = .ok (.if_icmp .le 9, 3) := by decide +kernel
theorem dX8_degrees_16 : decode cX8_degrees 16 = .ok (.aload_n 0, 1) := by decide +kernel
theorem dX8_degrees_17 : decode cX8_degrees 17 = .ok (.iconst 1, 1) := by decide +kernel
theorem dX8_degrees_18 : decode cX8_degrees 18 = .ok (.invokevirtual 69, 3) := by decide +kernel
theorem dX8_degrees_21 : decode cX8_degrees 21 = .ok (.ireturn, 1) := by decide +kernel
theorem dX8_degrees_22 : decode cX8_degrees 22 = .ok (.aload_n 0, 1) := by decide +kernel
theorem dX8_degrees_23 : decode cX8_degrees 23 = .ok (.getfield 60, 3) := by decide +kernel
theorem dX8_degrees_26 : decode cX8_degrees 26 = .ok (.iload_n 1, 1) := by decide +kernel
theorem dX8_degrees_27 : decode cX8_degrees 27 = .ok (.aaload, 1) := by decide +kernel
theorem dX8_degrees_28 : decode cX8_degrees 28 = .ok (.invokevirtual 261, 3) := by decide +kernel
theorem dX8_degrees_31 : decode cX8_degrees 31 = .ok (.ifCond .eq 10, 3) := by decide +kernel
theorem dX8_degrees_34 : decode cX8_degrees 34 = .ok (.aload_n 0, 1) := by decide +kernel
theorem dX8_degrees_35 : decode cX8_degrees 35 = .ok (.bipush 6, 2) := by decide +kernel
theorem dX8_degrees_37 : decode cX8_degrees 37 = .ok (.invokevirtual 69, 3) := by decide +kernel
theorem dX8_degrees_40 : decode cX8_degrees 40 = .ok (.ireturn, 1) := by decide +kernel
theorem dX8_degrees_41 : decode cX8_degrees 41 = .ok (.aload_n 0, 1) := by decide +kernel
theorem dX8_degrees_42 : decode cX8_degrees 42 = .ok (.getfield 60, 3) := by decide +kernel
theorem dX8_degrees_45 : decode cX8_degrees 45 = .ok (.iload_n 1, 1) := by decide +kernel
theorem dX8_degrees_46 : decode cX8_degrees 46 = .ok (.aaload, 1) := by decide +kernel
theorem dX8_degrees_47 : decode cX8_degrees 47 = .ok (.getfield 277, 3) := by decide +kernel
theorem dX8_degrees_50 : decode cX8_degrees 50 = .ok (.aload_n 0, 1) := by decide +kernel
theorem dX8_degrees_51 : decode cX8_degrees 51 = .ok (.getfield 10, 3) := by decide +kernel
theorem dX8_degrees_54 : decode cX8_degrees 54 = .ok (.getfield 73, 3) := by decide +kernel
theorem dX8_degrees_57 : decode cX8_degrees 57 = .ok (.invokestatic 278, 3) := by decide +kernel
theorem dX8_degrees_60 : decode cX8_degrees 60 = .ok (.istore_n 3, 1) := by decide +kernel
theorem dX8_degrees_61 : decode cX8_degrees 61 = .ok (.iconst 0, 1) := by decide +kernel
theorem dX8_degrees_62 : decode cX8_degrees 62 = .ok (.istore 4, 2) := by decide +kernel
theorem dX8_degrees_64 : decode cX8_degrees 64 = .ok (.iload 4, 2) := by decide +kernel
theorem dX8_degrees_66 : decode cX8_degrees 66 = .ok (.iload_n 3, 1) := by decide +kernel
theorem dX8_degrees_67 : decode cX8_degrees 67 = .ok (.if_icmp .ge 30, 3) := by decide +kernel
theorem dX8_degrees_70 : decode cX8_degrees 70 = .ok (.aload_n 0, 1) := by decide +kernel
theorem dX8_degrees_71 : decode cX8_degrees 71 = .ok (.getfield 60, 3) := by decide +kernel
theorem dX8_degrees_74 : decode cX8_degrees 74 = .ok (.iload_n 1, 1) := by decide +kernel
theorem dX8_degrees_75 : decode cX8_degrees 75 = .ok (.aaload, 1) := by decide +kernel
theorem dX8_degrees_76 : decode cX8_degrees 76 = .ok (.iload 4, 2) := by decide +kernel
theorem dX8_degrees_78 : decode cX8_degrees 78 = .ok (.aload_n 0, 1) := by decide +kernel
theorem dX8_degrees_79 : decode cX8_degrees 79 = .ok (.getfield 10, 3) := by decide +kernel
theorem dX8_degrees_82 : decode cX8_degrees 82 = .ok (.iload 4, 2) := by decide +kernel
theorem dX8_degrees_84 : decode cX8_degrees 84 = .ok (.iload_n 2, 1) := by decide +kernel
theorem dX8_degrees_85 : decode cX8_degrees 85 = .ok (.invokevirtual 118, 3) := by decide +kernel
theorem dX8_degrees_88 : decode cX8_degrees 88 = .ok (.invokevirtual 255, 3) := by decide +kernel
theorem dX8_degrees_91 : decode cX8_degrees 91 = .ok (.iinc 4 1, 3) := by decide +kernel
theorem dX8_degrees_94 : decode cX8_degrees 94 = .ok (.goto (-30), 3) := by decide +kernel
theorem dX8_degrees_97 : decode cX8_degrees 97 = .ok (.iload_n 3, 1) := by decide +kernel
theorem dX8_degrees_98 : decode cX8_degrees 98 = .ok (.ireturn, 1) := by decide +kernel
theorem dX8_walks_0 : decode cX8_walks 0 = .ok (.iload_n 1, 1) := by decide +kernel
theorem dX8_walks_1 : decode cX8_walks 1 = .ok (.invokestatic 246, 3) := by decide +kernel
theorem dX8_walks_4 : decode cX8_walks 4 = .ok (.ifCond .eq 12, 3) := by decide +kernel
theorem dX8_walks_7 : decode cX8_walks 7 = .ok (.iload_n 2, 1) := by decide +kernel
theorem dX8_walks_8 : decode cX8_walks 8 = .ok (.ifCond .lt 8, 3) := by decide +kernel
theorem dX8_walks_11 : decode cX8_walks 11 = .ok (.iload_n 2, 1) := by decide +kernel
theorem dX8_walks_12 : decode cX8_walks 12 = .ok (.iconst 1, 1) := by decide +kernel
theorem dX8_walks_13 : decode cX8_walks 13 = .ok (.if_icmp .le 9, 3) := by decide +kernel
theorem dX8_walks_16 : decode cX8_walks 16 = .ok (.aload_n 0, 1) := by decide +kernel
theorem dX8_walks_17 : decode cX8_walks 17 = .ok (.iconst 1, 1) := by decide +kernel
theorem dX8_walks_18 : decode cX8_walks 18 = .ok (.invokevirtual 69, 3) := by decide +kernel
theorem dX8_walks_21 : decode cX8_walks 21 = .ok (.ireturn, 1) := by decide +kernel
theorem dX8_walks_22 : decode cX8_walks 22 = .ok (.aload_n 0, 1) := by decide +kernel
theorem dX8_walks_23 : decode cX8_walks 23 = .ok (.getfield 60, 3) := by decide +kernel
theorem dX8_walks_26 : decode cX8_walks 26 = .ok (.iload_n 1, 1) := by decide +kernel
theorem dX8_walks_27 : decode cX8_walks 27 = .ok (.aaload, 1) := by decide +kernel
theorem dX8_walks_28 : decode cX8_walks 28 = .ok (.invokevirtual 261, 3) := by decide +kernel
theorem dX8_walks_31 : decode cX8_walks 31 = .ok (.ifCond .eq 10, 3) := by decide +kernel
theorem dX8_walks_34 : decode cX8_walks 34 = .ok (.aload_n 0, 1) := by decide +kernel
theorem dX8_walks_35 : decode cX8_walks 35 = .ok (.bipush 6, 2) := by decide +kernel
theorem dX8_walks_37 : decode cX8_walks 37 = .ok (.invokevirtual 69, 3) := by decide +kernel
theorem dX8_walks_40 : decode cX8_walks 40 = .ok (.ireturn, 1) := by decide +kernel
theorem dX8_walks_41 : decode cX8_walks 41 = .ok (.aload_n 0, 1) := by decide +kernel
theorem dX8_walks_42 : decode cX8_walks 42 = .ok (.getfield 47, 3) := by decide +kernel
theorem dX8_walks_45 : decode cX8_walks 45 = .ok (.getfield 81, 3) := by decide +kernel
theorem dX8_walks_48 : decode cX8_walks 48 = .ok (.ifCond .ne 9, 3) := by decide +kernel
theorem dX8_walks_51 : decode cX8_walks 51 = .ok (.aload_n 0, 1) := by decide +kernel
theorem dX8_walks_52 : decode cX8_walks 52 = .ok (.iconst 3, 1) := by decide +kernel
theorem dX8_walks_53 : decode cX8_walks 53 = .ok (.invokevirtual 69, 3) := by decide +kernel
theorem dX8_walks_56 : decode cX8_walks 56 = .ok (.ireturn, 1) := by decide +kernel
theorem dX8_walks_57 : decode cX8_walks 57 = .ok (.aload_n 0, 1) := by decide +kernel
theorem dX8_walks_58 : decode cX8_walks 58 = .ok (.getfield 47, 3) := by decide +kernel
theorem dX8_walks_61 : decode cX8_walks 61 = .ok (.invokevirtual 168, 3) := by decide +kernel
theorem dX8_walks_64 : decode cX8_walks 64 = .ok (.istore_n 3, 1) := by decide +kernel
theorem dX8_walks_65 : decode cX8_walks 65 = .ok (.iconst 0, 1) := by decide +kernel
theorem dX8_walks_66 : decode cX8_walks 66 = .ok (.istore 4, 2) := by decide +kernel
theorem dX8_walks_68 : decode cX8_walks 68 = .ok (.iconst 0, 1) := by decide +kernel
theorem dX8_walks_69 : decode cX8_walks 69 = .ok (.istore 5, 2) := by decide +kernel
theorem dX8_walks_71 : decode cX8_walks 71 = .ok (.iload 5, 2) := by decide +kernel
theorem dX8_walks_73 : decode cX8_walks 73 = .ok (.aload_n 0, 1) := by decide +kernel
theorem dX8_walks_74 : decode cX8_walks 74 = .ok (.getfield 60, 3) := by decide +kernel
theorem dX8_walks_77 : decode cX8_walks 77 = .ok (.iload_n 1, 1) := by decide +kernel
theorem dX8_walks_78 : decode cX8_walks 78 = .ok (.aaload, 1) := by decide +kernel
theorem dX8_walks_79 : decode cX8_walks 79 = .ok (.getfield 277, 3) := by decide +kernel
theorem dX8_walks_82 : decode cX8_walks 82 = .ok (.if_icmp .ge 68, 3) := by decide +kernel
theorem dX8_walks_85 : decode cX8_walks 85 = .ok (.aload_n 0, 1) := by decide +kernel
theorem dX8_walks_86 : decode cX8_walks 86 = .ok (.getfield 60, 3) := by decide +kernel
theorem dX8_walks_89 : decode cX8_walks 89 = .ok (.iload_n 1, 1) := by decide +kernel
theorem dX8_walks_90 : decode cX8_walks 90 = .ok (.aaload, 1) := by decide +kernel
theorem dX8_walks_91 : decode cX8_walks 91 = .ok (.getfield 258, 3) := by decide +kernel
theorem dX8_walks_94 : decode cX8_walks 94 = .ok (.iload 5, 2) := by decide +kernel
theorem dX8_walks_96 : decode cX8_walks 96 = .ok (.iaload, 1) := by decide +kernel
theorem dX8_walks_97 : decode cX8_walks 97 = .ok (.istore 6, 2) := by decide +kernel
theorem dX8_walks_99 : decode cX8_walks 99 = .ok (.aload_n 0, 1) := by decide +kernel
theorem dX8_walks_100 : decode cX8_walks 100 = .ok (.getfield 10, 3) := by decide +kernel
theorem dX8_walks_103 : decode cX8_walks 103 = .ok (.iload 6, 2) := by decide +kernel
theorem dX8_walks_105 : decode cX8_walks 105 = .ok (.invokevirtual 99, 3) := by decide +kernel
theorem dX8_walks_108 : decode cX8_walks 108 = .ok (.ifCond .eq 42, 3) := by decide +kernel
theorem dX8_walks_111 : decode cX8_walks 111 = .ok (.aload_n 0, 1) := by decide +kernel
theorem dX8_walks_112 : decode cX8_walks 112 = .ok (.getfield 24, 3) := by decide +kernel
theorem dX8_walks_115 : decode cX8_walks 115 = .ok (.iload_n 3, 1) := by decide +kernel
theorem dX8_walks_116 : decode cX8_walks 116 = .ok (.invokevirtual 178, 3) := by decide +kernel
theorem dX8_walks_119 : decode cX8_walks 119 = .ok (.iload 6, 2) := by decide +kernel
theorem dX8_walks_121 : decode cX8_walks 121 = .ok (.ishr, 1) := by decide +kernel
theorem dX8_walks_122 : decode cX8_walks 122 = .ok (.iconst 1, 1) := by decide +kernel
theorem dX8_walks_123 : decode cX8_walks 123 = .ok (.iand, 1) := by decide +kernel
theorem dX8_walks_124 : decode cX8_walks 124 = .ok (.ifCond .ne 6, 3) := by decide +kernel
theorem dX8_walks_127 : decode cX8_walks 127 = .ok (.goto 23, 3) := by decide +kernel
theorem dX8_walks_130 : decode cX8_walks 130 = .ok (.aload_n 0, 1) := by decide +kernel
theorem dX8_walks_131 : decode cX8_walks 131 = .ok (.getfield 24, 3) := by decide +kernel
theorem dX8_walks_134 : decode cX8_walks 134 = .ok (.iload_n 3, 1) := by decide +kernel
theorem dX8_walks_135 : decode cX8_walks 135 = .ok (.iload 6, 2) := by decide +kernel
theorem dX8_walks_137 : decode cX8_walks 137 = .ok (.invokevirtual 181, 3) := by decide +kernel
theorem dX8_walks_140 : decode cX8_walks 140 = .ok (.istore_n 3, 1) := by decide +kernel
theorem dX8_walks_141 : decode cX8_walks 141 = .ok (.iinc 4 1, 3) := by decide +kernel
theorem dX8_walks_144 : decode cX8_walks 144 = .ok (.iinc 5 1, 3) := by decide +kernel
theorem dX8_walks_147 : decode cX8_walks 147 = .ok (.goto (-76), 3) := by decide +kernel
theorem dX8_walks_150 : decode cX8_walks 150 = .ok (.iload_n 2, 1) := by decide +kernel
theorem dX8_walks_151 : decode cX8_walks 151 = .ok (.ifCond .ne 6, 3) := by decide +kernel
theorem dX8_walks_154 : decode cX8_walks 154 = .ok (.iload 4, 2) := by decide +kernel
theorem dX8_walks_156 : decode cX8_walks 156 = .ok (.ireturn, 1) := by decide +kernel
theorem dX8_walks_157 : decode cX8_walks 157 = .ok (.aload_n 0, 1) := by decide +kernel
theorem dX8_walks_158 : decode cX8_walks 158 = .ok (.getfield 24, 3) := by decide +kernel
theorem dX8_walks_161 : decode cX8_walks 161 = .ok (.iload_n 3, 1) := by decide +kernel
theorem dX8_walks_162 : decode cX8_walks 162 = .ok (.invokevirtual 171, 3) := by decide +kernel
theorem dX8_walks_165 : decode cX8_walks 165 = .ok (.ifCond .eq 7, 3) := by decide +kernel
theorem dX8_walks_168 : decode cX8_walks 168 = .ok (.iconst 1, 1) := by decide +kernel
theorem dX8_walks_169 : decode cX8_walks 169 = .ok (.goto 4, 3) := by decide +kernel
theorem dX8_walks_172 : decode cX8_walks 172 = .ok (.iconst 0, 1) := by decide +kernel
theorem dX8_walks_173 : decode cX8_walks 173 = .ok (.ireturn, 1) := by decide +kernel
theorem dX8_seed_0 : decode cX8_seed 0 = .ok (.aload_n 0, 1) := by decide +kernel
theorem dX8_seed_1 : decode cX8_seed 1 = .ok (.getfield 33, 3) := by decide +kernel
theorem dX8_seed_4 : decode cX8_seed 4 = .ok (.getfield 230, 3) := by decide +kernel
theorem dX8_seed_7 : decode cX8_seed 7 = .ok (.istore_n 2, 1) := by decide +kernel
theorem dX8_seed_8 : decode cX8_seed 8 = .ok (.aload_n 0, 1) := by decide +kernel
theorem dX8_seed_9 : decode cX8_seed 9 = .ok (.getfield 33, 3) := by decide +kernel
theorem dX8_seed_12 : decode cX8_seed 12 = .ok (.iload_n 1, 1) := by decide +kernel
theorem dX8_seed_13 : decode cX8_seed 13 = .ok (.putfield 230, 3) := by decide +kernel
theorem dX8_seed_16 : decode cX8_seed 16 = .ok (.iload_n 2, 1) := by decide +kernel
theorem dX8_seed_17 : decode cX8_seed 17 = .ok (.ireturn, 1) := by decide +kernel
theorem dX8_image_0 : decode cX8_image 0 = .ok (.aload_n 0, 1) := by decide +kernel
theorem dX8_image_1 : decode cX8_image 1 = .ok (.getfield 16, 3) := by decide +kernel
theorem dX8_image_4 : decode cX8_image 4 = .ok (.aload_n 0, 1) := by decide +kernel
theorem dX8_image_5 : decode cX8_image 5 = .ok (.getfield 10, 3) := by decide +kernel
theorem dX8_image_8 : decode cX8_image 8 = .ok (.invokevirtual 283, 3) := by decide +kernel
theorem dX8_image_11 : decode cX8_image 11 = .ok (.aload_n 0, 1) := by decide +kernel
theorem dX8_image_12 : decode cX8_image 12 = .ok (.aload_n 0, 1) := by decide +kernel
theorem dX8_image_13 : decode cX8_image 13 = .ok (.getfield 33, 3) := by decide +kernel
theorem dX8_image_16 : decode cX8_image 16 = .ok (.getfield 230, 3) := by decide +kernel
theorem dX8_image_19 : decode cX8_image 19 = .ok (.putfield 286, 3) := by decide +kernel
theorem dX8_image_22 : decode cX8_image 22 = .ok (.aload_n 0, 1) := by decide +kernel
theorem dX8_image_23 : decode cX8_image 23 = .ok (.iconst 1, 1) := by decide +kernel
theorem dX8_image_24 : decode cX8_image 24 = .ok (.putfield 289, 3) := by decide +kernel
theorem dX8_image_27 : decode cX8_image 27 = .ok (.aload_n 0, 1) := by decide +kernel
theorem dX8_image_28 : decode cX8_image 28 = .ok (.getfield 16, 3) := by decide +kernel
theorem dX8_image_31 : decode cX8_image 31 = .ok (.getfield 92, 3) := by decide +kernel
theorem dX8_image_34 : decode cX8_image 34 = .ok (.ireturn, 1) := by decide +kernel
theorem dX8_restore_0 : decode cX8_restore 0 = .ok (.aload_n 0, 1) := by decide +kernel
theorem dX8_restore_1 : decode cX8_restore 1 = .ok (.getfield 289, 3) := by decide +kernel
theorem dX8_restore_4 : decode cX8_restore 4 = .ok (.ifCond .ne 9, 3) := by decide +kernel
theorem dX8_restore_7 : decode cX8_restore 7 = .ok (.aload_n 0, 1) := by decide +kernel
theorem dX8_restore_8 : decode cX8_restore 8 = .ok (.iconst 2, 1) := by decide +kernel
theorem dX8_restore_9 : decode cX8_restore 9 = .ok (.invokevirtual 69, 3) := by decide +kernel
theorem dX8_restore_12 : decode cX8_restore 12 = .ok (.ireturn, 1) := by decide +kernel
theorem dX8_restore_13 : decode cX8_restore 13 = .ok (.aload_n 0, 1) := by decide +kernel
theorem dX8_restore_14 : decode cX8_restore 14 = .ok (.getfield 10, 3) := by decide +kernel
theorem dX8_restore_17 : decode cX8_restore 17 = .ok (.aload_n 0, 1) := by decide +kernel
theorem dX8_restore_18 : decode cX8_restore 18 = .ok (.getfield 16, 3) := by decide +kernel
theorem dX8_restore_21 : decode cX8_restore 21 = .ok (.invokevirtual 283, 3) := by decide +kernel
theorem dX8_restore_24 : decode cX8_restore 24 = .ok (.aload_n 0, 1) := by decide +kernel
theorem dX8_restore_25 : decode cX8_restore 25 = .ok (.getfield 33, 3) := by decide +kernel
theorem dX8_restore_28 : decode cX8_restore 28 = .ok (.aload_n 0, 1) := by decide +kernel
theorem dX8_restore_29 : decode cX8_restore 29 = .ok (.getfield 286, 3) := by decide +kernel
theorem dX8_restore_32 : decode cX8_restore 32 = .ok (.putfield 230, 3) := by decide +kernel
theorem dX8_restore_35 : decode cX8_restore 35 = .ok (.aload_n 0, 1) := by decide +kernel
theorem dX8_restore_36 : decode cX8_restore 36 = .ok (.getfield 47, 3) := by decide +kernel
theorem dX8_restore_39 : decode cX8_restore 39 = .ok (.iconst 0, 1) := by decide +kernel
theorem dX8_restore_40 : decode cX8_restore 40 = .ok (.putfield 81, 3) := by decide +kernel
theorem dX8_restore_43 : decode cX8_restore 43 = .ok (.aload_n 0, 1) := by decide +kernel
theorem dX8_restore_44 : decode cX8_restore 44 = .ok (.getfield 10, 3) := by decide +kernel
theorem dX8_restore_47 : decode cX8_restore 47 = .ok (.getfield 92, 3) := by decide +kernel
theorem dX8_restore_50 : decode cX8_restore 50 = .ok (.ireturn, 1) := by decide +kernel
theorem dX8_count_0 : decode cX8_count 0 = .ok (.iload_n 1, 1) := by decide +kernel
theorem dX8_count_1 : decode cX8_count 1 = .ok (.tableswitch 92 0 5 #[39, 47, 55, 63, 79, 87], 39) := by decide +kernel
theorem dX8_count_40 : decode cX8_count 40 = .ok (.aload_n 0, 1) := by decide +kernel
theorem dX8_count_41 : decode cX8_count 41 = .ok (.getfield 10, 3) := by decide +kernel
theorem dX8_count_44 : decode cX8_count 44 = .ok (.getfield 73, 3) := by decide +kernel
theorem dX8_count_47 : decode cX8_count 47 = .ok (.ireturn, 1) := by decide +kernel
theorem dX8_count_48 : decode cX8_count 48 = .ok (.aload_n 0, 1) := by decide +kernel
theorem dX8_count_49 : decode cX8_count 49 = .ok (.getfield 10, 3) := by decide +kernel
theorem dX8_count_52 : decode cX8_count 52 = .ok (.getfield 92, 3) := by decide +kernel
theorem dX8_count_55 : decode cX8_count 55 = .ok (.ireturn, 1) := by decide +kernel
theorem dX8_count_56 : decode cX8_count 56 = .ok (.aload_n 0, 1) := by decide +kernel
theorem dX8_count_57 : decode cX8_count 57 = .ok (.getfield 54, 3) := by decide +kernel
theorem dX8_count_60 : decode cX8_count 60 = .ok (.getfield 141, 3) := by decide +kernel
theorem dX8_count_63 : decode cX8_count 63 = .ok (.ireturn, 1) := by decide +kernel
theorem dX8_count_64 : decode cX8_count 64 = .ok (.aload_n 0, 1) := by decide +kernel
theorem dX8_count_65 : decode cX8_count 65 = .ok (.getfield 47, 3) := by decide +kernel
theorem dX8_count_68 : decode cX8_count 68 = .ok (.getfield 81, 3) := by decide +kernel
theorem dX8_count_71 : decode cX8_count 71 = .ok (.ifCond .eq 7, 3) := by decide +kernel
theorem dX8_count_74 : decode cX8_count 74 = .ok (.iconst 1, 1) := by decide +kernel
theorem dX8_count_75 : decode cX8_count 75 = .ok (.goto 4, 3) := by decide +kernel
theorem dX8_count_78 : decode cX8_count 78 = .ok (.iconst 0, 1) := by decide +kernel
theorem dX8_count_79 : decode cX8_count 79 = .ok (.ireturn, 1) := by decide +kernel
theorem dX8_count_80 : decode cX8_count 80 = .ok (.aload_n 0, 1) := by decide +kernel
theorem dX8_count_81 : decode cX8_count 81 = .ok (.getfield 33, 3) := by decide +kernel
theorem dX8_count_84 : decode cX8_count 84 = .ok (.getfield 230, 3) := by decide +kernel
theorem dX8_count_87 : decode cX8_count 87 = .ok (.ireturn, 1) := by decide +kernel
theorem dX8_count_88 : decode cX8_count 88 = .ok (.aload_n 0, 1) := by decide +kernel
theorem dX8_count_89 : decode cX8_count 89 = .ok (.invokevirtual 292, 3) := by decide +kernel
theorem dX8_count_92 : decode cX8_count 92 = .ok (.ireturn, 1) := by decide +kernel
theorem dX8_count_93 : decode cX8_count 93 = .ok (.aload_n 0, 1) := by decide +kernel
theorem dX8_count_94 : decode cX8_count 94 = .ok (.iconst 1, 1) := by decide +kernel
theorem dX8_count_95 : decode cX8_count 95 = .ok (.invokevirtual 69, 3) := by decide +kernel
theorem dX8_count_98 : decode cX8_count 98 = .ok (.ireturn, 1) := by decide +kernel
theorem dX8_told_0 : decode cX8_told 0 = .ok (.iload_n 1, 1) := by decide +kernel
theorem dX8_told_1 : decode cX8_told 1 = .ok (.iconst 1, 1) := by decide +kernel
theorem dX8_told_2 : decode cX8_told 2 = .ok (.if_icmp .lt 9, 3) := by decide +kernel
theorem dX8_told_5 : decode cX8_told 5 = .ok (.iload_n 1, 1) := by decide +kernel
theorem dX8_told_6 : decode cX8_told 6 = .ok (.bipush 6, 2) := by decide +kernel
theorem dX8_told_8 : decode cX8_told 8 = .ok (.if_icmp .le 11, 3) := by decide +kernel
theorem dX8_told_11 : decode cX8_told 11 = .ok (.aload_n 0, 1) := by decide +kernel
theorem dX8_told_12 : decode cX8_told 12 = .ok (.iconst 1, 1) := by decide +kernel
theorem dX8_told_13 : decode cX8_told 13 = .ok (.invokevirtual 69, 3) := by decide +kernel
theorem dX8_told_16 : decode cX8_told 16 = .ok (.goto 9, 3) := by decide +kernel
theorem dX8_told_19 : decode cX8_told 19 = .ok (.aload_n 0, 1) := by decide +kernel
theorem dX8_told_20 : decode cX8_told 20 = .ok (.getfield 64, 3) := by decide +kernel
theorem dX8_told_23 : decode cX8_told 23 = .ok (.iload_n 1, 1) := by decide +kernel
theorem dX8_told_24 : decode cX8_told 24 = .ok (.iaload, 1) := by decide +kernel
theorem dX8_told_25 : decode cX8_told 25 = .ok (.ireturn, 1) := by decide +kernel
theorem dX8_fail_0 : decode cX8_fail 0 = .ok (.aload_n 0, 1) := by decide +kernel
theorem dX8_fail_1 : decode cX8_fail 1 = .ok (.getfield 64, 3) := by decide +kernel
theorem dX8_fail_4 : decode cX8_fail 4 = .ok (.iload_n 1, 1) := by decide +kernel
theorem dX8_fail_5 : decode cX8_fail 5 = .ok (.dup2, 1) := by decide +kernel
theorem dX8_fail_6 : decode cX8_fail 6 = .ok (.iaload, 1) := by decide +kernel
theorem dX8_fail_7 : decode cX8_fail 7 = .ok (.iconst 1, 1) := by decide +kernel
theorem dX8_fail_8 : decode cX8_fail 8 = .ok (.iadd, 1) := by decide +kernel
theorem dX8_fail_9 : decode cX8_fail 9 = .ok (.iastore, 1) := by decide +kernel
theorem dX8_fail_10 : decode cX8_fail 10 = .ok (.ldc_w 295, 3) := by decide +kernel
theorem dX8_fail_13 : decode cX8_fail 13 = .ok (.iload_n 1, 1) := by decide +kernel
theorem dX8_fail_14 : decode cX8_fail 14 = .ok (.isub, 1) := by decide +kernel
theorem dX8_fail_15 : decode cX8_fail 15 = .ok (.ireturn, 1) := by decide +kernel
theorem dX8_isOver_0 : decode cX8_isOver 0 = .ok (.aload_n 0, 1) := by decide +kernel
theorem dX8_isOver_1 : decode cX8_isOver 1 = .ok (.getfield 24, 3) := by decide +kernel
theorem dX8_isOver_4 : decode cX8_isOver 4 = .ok (.aload_n 0, 1) := by decide +kernel
theorem dX8_isOver_5 : decode cX8_isOver 5 = .ok (.getfield 47, 3) := by decide +kernel
theorem dX8_isOver_8 : decode cX8_isOver 8 = .ok (.invokevirtual 168, 3) := by decide +kernel
theorem dX8_isOver_11 : decode cX8_isOver 11 = .ok (.invokevirtual 178, 3) := by decide +kernel
theorem dX8_isOver_14 : decode cX8_isOver 14 = .ok (.ifCond .ne 7, 3) := by decide +kernel
theorem dX8_isOver_17 : decode cX8_isOver 17 = .ok (.iconst 1, 1) := by decide +kernel
theorem dX8_isOver_18 : decode cX8_isOver 18 = .ok (.goto 4, 3) := by decide +kernel
theorem dX8_isOver_21 : decode cX8_isOver 21 = .ok (.iconst 0, 1) := by decide +kernel
theorem dX8_isOver_22 : decode cX8_isOver 22 = .ok (.ireturn, 1) := by decide +kernel
theorem dX8_errorOfNumber_0 : decode cX8_errorOfNumber 0 = .ok (.iload_n 1, 1) := by decide +kernel
theorem dX8_errorOfNumber_1 : decode cX8_errorOfNumber 1 = .ok (.invokestatic 246, 3) := by decide +kernel
theorem dX8_errorOfNumber_4 : decode cX8_errorOfNumber 4 = .ok (.ifCond .ne 5, 3) := by decide +kernel
theorem dX8_errorOfNumber_7 : decode cX8_errorOfNumber 7 = .ok (.iconst 1, 1) := by decide +kernel
theorem dX8_errorOfNumber_8 : decode cX8_errorOfNumber 8 = .ok (.ireturn, 1) := by decide +kernel
theorem dX8_errorOfNumber_9 : decode cX8_errorOfNumber 9 = .ok (.aload_n 0, 1) := by decide +kernel
theorem dX8_errorOfNumber_10 : decode cX8_errorOfNumber 10 = .ok (.getfield 60, 3) := by decide +kernel
theorem dX8_errorOfNumber_13 : decode cX8_errorOfNumber 13 = .ok (.iload_n 1, 1) := by decide +kernel
theorem dX8_errorOfNumber_14 : decode cX8_errorOfNumber 14 = .ok (.aaload, 1) := by decide +kernel
theorem dX8_errorOfNumber_15 : decode cX8_errorOfNumber 15 = .ok (.invokevirtual 261, 3) := by decide +kernel
theorem dX8_errorOfNumber_18 : decode cX8_errorOfNumber 18 = .ok (.ifCond .eq 6, 3) := by decide +kernel
theorem dX8_errorOfNumber_21 : decode cX8_errorOfNumber 21 = .ok (.bipush 6, 2) := by decide +kernel
theorem dX8_errorOfNumber_23 : decode cX8_errorOfNumber 23 = .ok (.ireturn, 1) := by decide +kernel
theorem dX8_errorOfNumber_24 : decode cX8_errorOfNumber 24 = .ok (.iload_n 2, 1) := by decide +kernel
theorem dX8_errorOfNumber_25 : decode cX8_errorOfNumber 25 = .ok (.ifCond .lt 16, 3) := by decide +kernel
theorem dX8_errorOfNumber_28 : decode cX8_errorOfNumber 28 = .ok (.iload_n 2, 1) := by decide +kernel
theorem dX8_errorOfNumber_29 : decode cX8_errorOfNumber 29 = .ok (.aload_n 0, 1) := by decide +kernel
theorem dX8_errorOfNumber_30 : decode cX8_errorOfNumber 30 = .ok (.getfield 60, 3) := by decide +kernel
theorem dX8_errorOfNumber_33 : decode cX8_errorOfNumber 33 = .ok (.iload_n 1, 1) := by decide +kernel
theorem dX8_errorOfNumber_34 : decode cX8_errorOfNumber 34 = .ok (.aaload, 1) := by decide +kernel
theorem dX8_errorOfNumber_35 : decode cX8_errorOfNumber 35 = .ok (.getfield 277, 3) := by decide +kernel
theorem dX8_errorOfNumber_38 : decode cX8_errorOfNumber 38 = .ok (.if_icmp .lt 7, 3) := by decide +kernel
theorem dX8_errorOfNumber_41 : decode cX8_errorOfNumber 41 = .ok (.iconst 1, 1) := by decide +kernel
theorem dX8_errorOfNumber_42 : decode cX8_errorOfNumber 42 = .ok (.goto 4, 3) := by decide +kernel
theorem dX8_errorOfNumber_45 : decode cX8_errorOfNumber 45 = .ok (.iconst 0, 1) := by decide +kernel
theorem dX8_errorOfNumber_46 : decode cX8_errorOfNumber 46 = .ok (.ireturn, 1) := by decide +kernel
theorem dX8_sheetsThere_0 : decode cX8_sheetsThere 0 = .ok (.iconst 0, 1) := by decide +kernel
theorem dX8_sheetsThere_1 : decode cX8_sheetsThere 1 = .ok (.istore_n 1, 1) := by decide +kernel
theorem dX8_sheetsThere_2 : decode cX8_sheetsThere 2 = .ok (.iconst 0, 1) := by decide +kernel
theorem dX8_sheetsThere_3 : decode cX8_sheetsThere 3 = .ok (.istore_n 2, 1) := by decide +kernel
theorem dX8_sheetsThere_4 : decode cX8_sheetsThere 4 = .ok (.iload_n 2, 1) := by decide +kernel
theorem dX8_sheetsThere_5 : decode cX8_sheetsThere 5 = .ok (.iconst 4, 1) := by decide +kernel
theorem dX8_sheetsThere_6 : decode cX8_sheetsThere 6 = .ok (.if_icmp .ge 24, 3) := by decide +kernel
theorem dX8_sheetsThere_9 : decode cX8_sheetsThere 9 = .ok (.aload_n 0, 1) := by decide +kernel
theorem dX8_sheetsThere_10 : decode cX8_sheetsThere 10 = .ok (.getfield 60, 3) := by decide +kernel
theorem dX8_sheetsThere_13 : decode cX8_sheetsThere 13 = .ok (.iload_n 2, 1) := by decide +kernel
theorem dX8_sheetsThere_14 : decode cX8_sheetsThere 14 = .ok (.aaload, 1) := by decide +kernel
theorem dX8_sheetsThere_15 : decode cX8_sheetsThere 15 = .ok (.invokevirtual 261, 3) := by decide +kernel
theorem dX8_sheetsThere_18 : decode cX8_sheetsThere 18 = .ok (.ifCond .ne 6, 3) := by decide +kernel
theorem dX8_sheetsThere_21 : decode cX8_sheetsThere 21 = .ok (.iinc 1 1, 3) := by decide +kernel
theorem dX8_sheetsThere_24 : decode cX8_sheetsThere 24 = .ok (.iinc 2 1, 3) := by decide +kernel
theorem dX8_sheetsThere_27 : decode cX8_sheetsThere 27 = .ok (.goto (-23), 3) := by decide +kernel
theorem dX8_sheetsThere_30 : decode cX8_sheetsThere 30 = .ok (.iload_n 1, 1) := by decide +kernel
theorem dX8_sheetsThere_31 : decode cX8_sheetsThere 31 = .ok (.ireturn, 1) := by decide +kernel
theorem dX8_isWay_0 : decode cX8_isWay 0 = .ok (.iload_n 0, 1) := by decide +kernel
theorem dX8_isWay_1 : decode cX8_isWay 1 = .ok (.ifCond .lt 12, 3) := by decide +kernel
theorem dX8_isWay_4 : decode cX8_isWay 4 = .ok (.iload_n 0, 1) := by decide +kernel
theorem dX8_isWay_5 : decode cX8_isWay 5 = .ok (.iconst 2, 1) := by decide +kernel
theorem dX8_isWay_6 : decode cX8_isWay 6 = .ok (.if_icmp .gt 7, 3) := by decide +kernel
theorem dX8_isWay_9 : decode cX8_isWay 9 = .ok (.iconst 1, 1) := by decide +kernel
theorem dX8_isWay_10 : decode cX8_isWay 10 = .ok (.goto 4, 3) := by decide +kernel
theorem dX8_isWay_13 : decode cX8_isWay 13 = .ok (.iconst 0, 1) := by decide +kernel
theorem dX8_isWay_14 : decode cX8_isWay 14 = .ok (.ireturn, 1) := by decide +kernel
theorem dX8_isRule_0 : decode cX8_isRule 0 = .ok (.iload_n 0, 1) := by decide +kernel
theorem dX8_isRule_1 : decode cX8_isRule 1 = .ok (.ifCond .lt 12, 3) := by decide +kernel
theorem dX8_isRule_4 : decode cX8_isRule 4 = .ok (.iload_n 0, 1) := by decide +kernel
theorem dX8_isRule_5 : decode cX8_isRule 5 = .ok (.iconst 5, 1) := by decide +kernel
theorem dX8_isRule_6 : decode cX8_isRule 6 = .ok (.if_icmp .ge 7, 3) := by decide +kernel
theorem dX8_isRule_9 : decode cX8_isRule 9 = .ok (.iconst 1, 1) := by decide +kernel
theorem dX8_isRule_10 : decode cX8_isRule 10 = .ok (.goto 4, 3) := by decide +kernel
theorem dX8_isRule_13 : decode cX8_isRule 13 = .ok (.iconst 0, 1) := by decide +kernel
theorem dX8_isRule_14 : decode cX8_isRule 14 = .ok (.ireturn, 1) := by decide +kernel
theorem dX8_isSheet_0 : decode cX8_isSheet 0 = .ok (.iload_n 0, 1) := by decide +kernel
theorem dX8_isSheet_1 : decode cX8_isSheet 1 = .ok (.ifCond .lt 12, 3) := by decide +kernel
theorem dX8_isSheet_4 : decode cX8_isSheet 4 = .ok (.iload_n 0, 1) := by decide +kernel
theorem dX8_isSheet_5 : decode cX8_isSheet 5 = .ok (.iconst 4, 1) := by decide +kernel
theorem dX8_isSheet_6 : decode cX8_isSheet 6 = .ok (.if_icmp .ge 7, 3) := by decide +kernel
theorem dX8_isSheet_9 : decode cX8_isSheet 9 = .ok (.iconst 1, 1) := by decide +kernel
theorem dX8_isSheet_10 : decode cX8_isSheet 10 = .ok (.goto 4, 3) := by decide +kernel
theorem dX8_isSheet_13 : decode cX8_isSheet 13 = .ok (.iconst 0, 1) := by decide +kernel
theorem dX8_isSheet_14 : decode cX8_isSheet 14 = .ok (.ireturn, 1) := by decide +kernel
theorem dX8_isCode_0 : decode cX8_isCode 0 = .ok (.iload_n 0, 1) := by decide +kernel
theorem dX8_isCode_1 : decode cX8_isCode 1 = .ok (.iconst 1, 1) := by decide +kernel
theorem dX8_isCode_2 : decode cX8_isCode 2 = .ok (.if_icmp .lt 10, 3) := by decide +kernel
theorem dX8_isCode_5 : decode cX8_isCode 5 = .ok (.iload_n 0, 1) := by decide +kernel
theorem dX8_isCode_6 : decode cX8_isCode 6 = .ok (.sipush 7777, 3) := by decide +kernel
theorem dX8_isCode_9 : decode cX8_isCode 9 = .ok (.if_icmp .le 5, 3) := by decide +kernel
theorem dX8_isCode_12 : decode cX8_isCode 12 = .ok (.iconst 0, 1) := by decide +kernel
theorem dX8_isCode_13 : decode cX8_isCode 13 = .ok (.ireturn, 1) := by decide +kernel
theorem dX8_isCode_14 : decode cX8_isCode 14 = .ok (.iload_n 0, 1) := by decide +kernel
theorem dX8_isCode_15 : decode cX8_isCode 15 = .ok (.istore_n 1, 1) := by decide +kernel
theorem dX8_isCode_16 : decode cX8_isCode 16 = .ok (.iconst 0, 1) := by decide +kernel
theorem dX8_isCode_17 : decode cX8_isCode 17 = .ok (.istore_n 2, 1) := by decide +kernel
theorem dX8_isCode_18 : decode cX8_isCode 18 = .ok (.iload_n 2, 1) := by decide +kernel
theorem dX8_isCode_19 : decode cX8_isCode 19 = .ok (.iconst 4, 1) := by decide +kernel
theorem dX8_isCode_20 : decode cX8_isCode 20 = .ok (.if_icmp .ge 36, 3) := by decide +kernel
theorem dX8_isCode_23 : decode cX8_isCode 23 = .ok (.iload_n 1, 1) := by decide +kernel
theorem dX8_isCode_24 : decode cX8_isCode 24 = .ok (.ifCond .le 32, 3) := by decide +kernel
theorem dX8_isCode_27 : decode cX8_isCode 27 = .ok (.iload_n 1, 1) := by decide +kernel
theorem dX8_isCode_28 : decode cX8_isCode 28 = .ok (.bipush 10, 2) := by decide +kernel
theorem dX8_isCode_30 : decode cX8_isCode 30 = .ok (.irem, 1) := by decide +kernel
theorem dX8_isCode_31 : decode cX8_isCode 31 = .ok (.istore_n 3, 1) := by decide +kernel
theorem dX8_isCode_32 : decode cX8_isCode 32 = .ok (.iload_n 3, 1) := by decide +kernel
theorem dX8_isCode_33 : decode cX8_isCode 33 = .ok (.iconst 1, 1) := by decide +kernel
theorem dX8_isCode_34 : decode cX8_isCode 34 = .ok (.if_icmp .lt 9, 3) := by decide +kernel
theorem dX8_isCode_37 : decode cX8_isCode 37 = .ok (.iload_n 3, 1) := by decide +kernel
theorem dX8_isCode_38 : decode cX8_isCode 38 = .ok (.bipush 7, 2) := by decide +kernel
theorem dX8_isCode_40 : decode cX8_isCode 40 = .ok (.if_icmp .le 5, 3) := by decide +kernel
theorem dX8_isCode_43 : decode cX8_isCode 43 = .ok (.iconst 0, 1) := by decide +kernel
theorem dX8_isCode_44 : decode cX8_isCode 44 = .ok (.ireturn, 1) := by decide +kernel
theorem dX8_isCode_45 : decode cX8_isCode 45 = .ok (.iload_n 1, 1) := by decide +kernel
theorem dX8_isCode_46 : decode cX8_isCode 46 = .ok (.bipush 10, 2) := by decide +kernel
theorem dX8_isCode_48 : decode cX8_isCode 48 = .ok (.idiv, 1) := by decide +kernel
theorem dX8_isCode_49 : decode cX8_isCode 49 = .ok (.istore_n 1, 1) := by decide +kernel
theorem dX8_isCode_50 : decode cX8_isCode 50 = .ok (.iinc 2 1, 3) := by decide +kernel
theorem dX8_isCode_53 : decode cX8_isCode 53 = .ok (.goto (-35), 3) := by decide +kernel
theorem dX8_isCode_56 : decode cX8_isCode 56 = .ok (.iconst 1, 1) := by decide +kernel
theorem dX8_isCode_57 : decode cX8_isCode 57 = .ok (.ireturn, 1) := by decide +kernel
theorem dJ6_lowestOneBit_0f7a4_0 : decode cJ6_lowestOneBit_0f7a4 0 = .ok (.iload_n 0, 1) := by decide +kernel
theorem dJ6_lowestOneBit_0f7a4_1 : decode cJ6_lowestOneBit_0f7a4 1 = .ok (.iload_n 0, 1) := by decide +kernel
theorem dJ6_lowestOneBit_0f7a4_2 : decode cJ6_lowestOneBit_0f7a4 2 = .ok (.ineg, 1) := by decide +kernel
theorem dJ6_lowestOneBit_0f7a4_3 : decode cJ6_lowestOneBit_0f7a4 3 = .ok (.iand, 1) := by decide +kernel
theorem dJ6_lowestOneBit_0f7a4_4 : decode cJ6_lowestOneBit_0f7a4 4 = .ok (.ireturn, 1) := by decide +kernel
theorem dJ6_numberOfLeadingZeros_0f7a4_0 : decode cJ6_numberOfLeadingZeros_0f7a4 0 = .ok (.iload_n 0, 1) := by decide +kernel
theorem dJ6_numberOfLeadingZeros_0f7a4_1 : decode cJ6_numberOfLeadingZeros_0f7a4 1 = .ok (.ifCond .gt 14, 3) := by decide +kernel
theorem dJ6_numberOfLeadingZeros_0f7a4_4 : decode cJ6_numberOfLeadingZeros_0f7a4 4 = .ok (.iload_n 0, 1) := by decide +kernel
theorem dJ6_numberOfLeadingZeros_0f7a4_5 : decode cJ6_numberOfLeadingZeros_0f7a4 5 = .ok (.ifCond .ne 8, 3) := by decide +kernel
theorem dJ6_numberOfLeadingZeros_0f7a4_8 : decode cJ6_numberOfLeadingZeros_0f7a4 8 = .ok (.bipush 32, 2) := by decide +kernel
theorem dJ6_numberOfLeadingZeros_0f7a4_10 : decode cJ6_numberOfLeadingZeros_0f7a4 10 = .ok (.goto 4, 3) := by decide +kernel
theorem dJ6_numberOfLeadingZeros_0f7a4_13 : decode cJ6_numberOfLeadingZeros_0f7a4 13 = .ok (.iconst 0, 1) := by decide +kernel
theorem dJ6_numberOfLeadingZeros_0f7a4_14 : decode cJ6_numberOfLeadingZeros_0f7a4 14 = .ok (.ireturn, 1) := by decide +kernel
theorem dJ6_numberOfLeadingZeros_0f7a4_15 : decode cJ6_numberOfLeadingZeros_0f7a4 15 = .ok (.bipush 31, 2) := by decide +kernel
theorem dJ6_numberOfLeadingZeros_0f7a4_17 : decode cJ6_numberOfLeadingZeros_0f7a4 17 = .ok (.istore_n 1, 1) := by decide +kernel
theorem dJ6_numberOfLeadingZeros_0f7a4_18 : decode cJ6_numberOfLeadingZeros_0f7a4 18 = .ok (.iload_n 0, 1) := by decide +kernel
theorem dJ6_numberOfLeadingZeros_0f7a4_19 : decode cJ6_numberOfLeadingZeros_0f7a4 19 = .ok (.ldc_w 264, 3) := by decide +kernel
theorem dJ6_numberOfLeadingZeros_0f7a4_22 : decode cJ6_numberOfLeadingZeros_0f7a4 22 = .ok (.if_icmp .lt 11, 3) := by decide +kernel
theorem dJ6_numberOfLeadingZeros_0f7a4_25 : decode cJ6_numberOfLeadingZeros_0f7a4 25 = .ok (.iinc 1 (-16), 3) := by decide +kernel
theorem dJ6_numberOfLeadingZeros_0f7a4_28 : decode cJ6_numberOfLeadingZeros_0f7a4 28 = .ok (.iload_n 0, 1) := by decide +kernel
theorem dJ6_numberOfLeadingZeros_0f7a4_29 : decode cJ6_numberOfLeadingZeros_0f7a4 29 = .ok (.bipush 16, 2) := by decide +kernel
theorem dJ6_numberOfLeadingZeros_0f7a4_31 : decode cJ6_numberOfLeadingZeros_0f7a4 31 = .ok (.iushr, 1) := by decide +kernel
theorem dJ6_numberOfLeadingZeros_0f7a4_32 : decode cJ6_numberOfLeadingZeros_0f7a4 32 = .ok (.istore_n 0, 1) := by decide +kernel
theorem dJ6_numberOfLeadingZeros_0f7a4_33 : decode cJ6_numberOfLeadingZeros_0f7a4 33 = .ok (.iload_n 0, 1) := by decide +kernel
theorem dJ6_numberOfLeadingZeros_0f7a4_34 : decode cJ6_numberOfLeadingZeros_0f7a4 34 = .ok (.sipush 256, 3) := by decide +kernel
theorem dJ6_numberOfLeadingZeros_0f7a4_37 : decode cJ6_numberOfLeadingZeros_0f7a4 37 = .ok (.if_icmp .lt 11, 3) := by decide +kernel
theorem dJ6_numberOfLeadingZeros_0f7a4_40 : decode cJ6_numberOfLeadingZeros_0f7a4 40 = .ok (.iinc 1 (-8), 3) := by decide +kernel
theorem dJ6_numberOfLeadingZeros_0f7a4_43 : decode cJ6_numberOfLeadingZeros_0f7a4 43 = .ok (.iload_n 0, 1) := by decide +kernel
theorem dJ6_numberOfLeadingZeros_0f7a4_44 : decode cJ6_numberOfLeadingZeros_0f7a4 44 = .ok (.bipush 8, 2) := by decide +kernel
theorem dJ6_numberOfLeadingZeros_0f7a4_46 : decode cJ6_numberOfLeadingZeros_0f7a4 46 = .ok (.iushr, 1) := by decide +kernel
theorem dJ6_numberOfLeadingZeros_0f7a4_47 : decode cJ6_numberOfLeadingZeros_0f7a4 47 = .ok (.istore_n 0, 1) := by decide +kernel
theorem dJ6_numberOfLeadingZeros_0f7a4_48 : decode cJ6_numberOfLeadingZeros_0f7a4 48 = .ok (.iload_n 0, 1) := by decide +kernel
theorem dJ6_numberOfLeadingZeros_0f7a4_49 : decode cJ6_numberOfLeadingZeros_0f7a4 49 = .ok (.bipush 16, 2) := by decide +kernel
theorem dJ6_numberOfLeadingZeros_0f7a4_51 : decode cJ6_numberOfLeadingZeros_0f7a4 51 = .ok (.if_icmp .lt 10, 3) := by decide +kernel
theorem dJ6_numberOfLeadingZeros_0f7a4_54 : decode cJ6_numberOfLeadingZeros_0f7a4 54 = .ok (.iinc 1 (-4), 3) := by decide +kernel
theorem dJ6_numberOfLeadingZeros_0f7a4_57 : decode cJ6_numberOfLeadingZeros_0f7a4 57 = .ok (.iload_n 0, 1) := by decide +kernel
theorem dJ6_numberOfLeadingZeros_0f7a4_58 : decode cJ6_numberOfLeadingZeros_0f7a4 58 = .ok (.iconst 4, 1) := by decide +kernel
theorem dJ6_numberOfLeadingZeros_0f7a4_59 : decode cJ6_numberOfLeadingZeros_0f7a4 59 = .ok (.iushr, 1) := by decide +kernel
theorem dJ6_numberOfLeadingZeros_0f7a4_60 : decode cJ6_numberOfLeadingZeros_0f7a4 60 = .ok (.istore_n 0, 1) := by decide +kernel
theorem dJ6_numberOfLeadingZeros_0f7a4_61 : decode cJ6_numberOfLeadingZeros_0f7a4 61 = .ok (.iload_n 0, 1) := by decide +kernel
theorem dJ6_numberOfLeadingZeros_0f7a4_62 : decode cJ6_numberOfLeadingZeros_0f7a4 62 = .ok (.iconst 4, 1) := by decide +kernel
theorem dJ6_numberOfLeadingZeros_0f7a4_63 : decode cJ6_numberOfLeadingZeros_0f7a4 63 = .ok (.if_icmp .lt 10, 3) := by decide +kernel
theorem dJ6_numberOfLeadingZeros_0f7a4_66 : decode cJ6_numberOfLeadingZeros_0f7a4 66 = .ok (.iinc 1 (-2), 3) := by decide +kernel
theorem dJ6_numberOfLeadingZeros_0f7a4_69 : decode cJ6_numberOfLeadingZeros_0f7a4 69 = .ok (.iload_n 0, 1) := by decide +kernel
theorem dJ6_numberOfLeadingZeros_0f7a4_70 : decode cJ6_numberOfLeadingZeros_0f7a4 70 = .ok (.iconst 2, 1) := by decide +kernel
theorem dJ6_numberOfLeadingZeros_0f7a4_71 : decode cJ6_numberOfLeadingZeros_0f7a4 71 = .ok (.iushr, 1) := by decide +kernel
theorem dJ6_numberOfLeadingZeros_0f7a4_72 : decode cJ6_numberOfLeadingZeros_0f7a4 72 = .ok (.istore_n 0, 1) := by decide +kernel
theorem dJ6_numberOfLeadingZeros_0f7a4_73 : decode cJ6_numberOfLeadingZeros_0f7a4 73 = .ok (.iload_n 1, 1) := by decide +kernel
theorem dJ6_numberOfLeadingZeros_0f7a4_74 : decode cJ6_numberOfLeadingZeros_0f7a4 74 = .ok (.iload_n 0, 1) := by decide +kernel
theorem dJ6_numberOfLeadingZeros_0f7a4_75 : decode cJ6_numberOfLeadingZeros_0f7a4 75 = .ok (.iconst 1, 1) := by decide +kernel
theorem dJ6_numberOfLeadingZeros_0f7a4_76 : decode cJ6_numberOfLeadingZeros_0f7a4 76 = .ok (.iushr, 1) := by decide +kernel
theorem dJ6_numberOfLeadingZeros_0f7a4_77 : decode cJ6_numberOfLeadingZeros_0f7a4 77 = .ok (.isub, 1) := by decide +kernel
theorem dJ6_numberOfLeadingZeros_0f7a4_78 : decode cJ6_numberOfLeadingZeros_0f7a4 78 = .ok (.ireturn, 1) := by decide +kernel
theorem dJ6_numberOfTrailingZeros_0f7a4_0 : decode cJ6_numberOfTrailingZeros_0f7a4 0 = .ok (.iload_n 0, 1) := by decide +kernel
theorem dJ6_numberOfTrailingZeros_0f7a4_1 : decode cJ6_numberOfTrailingZeros_0f7a4 1 = .ok (.iconst (-1), 1) := by decide +kernel
theorem dJ6_numberOfTrailingZeros_0f7a4_2 : decode cJ6_numberOfTrailingZeros_0f7a4 2 = .ok (.ixor, 1) := by decide +kernel
theorem dJ6_numberOfTrailingZeros_0f7a4_3 : decode cJ6_numberOfTrailingZeros_0f7a4 3 = .ok (.iload_n 0, 1) := by decide +kernel
theorem dJ6_numberOfTrailingZeros_0f7a4_4 : decode cJ6_numberOfTrailingZeros_0f7a4 4 = .ok (.iconst 1, 1) := by decide +kernel
theorem dJ6_numberOfTrailingZeros_0f7a4_5 : decode cJ6_numberOfTrailingZeros_0f7a4 5 = .ok (.isub, 1) := by decide +kernel
theorem dJ6_numberOfTrailingZeros_0f7a4_6 : decode cJ6_numberOfTrailingZeros_0f7a4 6 = .ok (.iand, 1) := by decide +kernel
theorem dJ6_numberOfTrailingZeros_0f7a4_7 : decode cJ6_numberOfTrailingZeros_0f7a4 7 = .ok (.istore_n 0, 1) := by decide +kernel
theorem dJ6_numberOfTrailingZeros_0f7a4_8 : decode cJ6_numberOfTrailingZeros_0f7a4 8 = .ok (.iload_n 0, 1) := by decide +kernel
theorem dJ6_numberOfTrailingZeros_0f7a4_9 : decode cJ6_numberOfTrailingZeros_0f7a4 9 = .ok (.ifCond .gt 8, 3) := by decide +kernel
theorem dJ6_numberOfTrailingZeros_0f7a4_12 : decode cJ6_numberOfTrailingZeros_0f7a4 12 = .ok (.iload_n 0, 1) := by decide +kernel
theorem dJ6_numberOfTrailingZeros_0f7a4_13 : decode cJ6_numberOfTrailingZeros_0f7a4 13 = .ok (.bipush 32, 2) := by decide +kernel
theorem dJ6_numberOfTrailingZeros_0f7a4_15 : decode cJ6_numberOfTrailingZeros_0f7a4 15 = .ok (.iand, 1) := by decide +kernel
theorem dJ6_numberOfTrailingZeros_0f7a4_16 : decode cJ6_numberOfTrailingZeros_0f7a4 16 = .ok (.ireturn, 1) := by decide +kernel
theorem dJ6_numberOfTrailingZeros_0f7a4_17 : decode cJ6_numberOfTrailingZeros_0f7a4 17 = .ok (.iconst 1, 1) := by decide +kernel
theorem dJ6_numberOfTrailingZeros_0f7a4_18 : decode cJ6_numberOfTrailingZeros_0f7a4 18 = .ok (.istore_n 1, 1) := by decide +kernel
theorem dJ6_numberOfTrailingZeros_0f7a4_19 : decode cJ6_numberOfTrailingZeros_0f7a4 19 = .ok (.iload_n 0, 1) := by decide +kernel
theorem dJ6_numberOfTrailingZeros_0f7a4_20 : decode cJ6_numberOfTrailingZeros_0f7a4 20 = .ok (.ldc_w 264, 3) := by decide +kernel
theorem dJ6_numberOfTrailingZeros_0f7a4_23 : decode cJ6_numberOfTrailingZeros_0f7a4 23 = .ok (.if_icmp .le 11, 3) := by decide +kernel
theorem dJ6_numberOfTrailingZeros_0f7a4_26 : decode cJ6_numberOfTrailingZeros_0f7a4 26 = .ok (.iinc 1 16, 3) := by decide +kernel
theorem dJ6_numberOfTrailingZeros_0f7a4_29 : decode cJ6_numberOfTrailingZeros_0f7a4 29 = .ok (.iload_n 0, 1) := by decide +kernel
theorem dJ6_numberOfTrailingZeros_0f7a4_30 : decode cJ6_numberOfTrailingZeros_0f7a4 30 = .ok (.bipush 16, 2) := by decide +kernel
theorem dJ6_numberOfTrailingZeros_0f7a4_32 : decode cJ6_numberOfTrailingZeros_0f7a4 32 = .ok (.iushr, 1) := by decide +kernel
theorem dJ6_numberOfTrailingZeros_0f7a4_33 : decode cJ6_numberOfTrailingZeros_0f7a4 33 = .ok (.istore_n 0, 1) := by decide +kernel
theorem dJ6_numberOfTrailingZeros_0f7a4_34 : decode cJ6_numberOfTrailingZeros_0f7a4 34 = .ok (.iload_n 0, 1) := by decide +kernel
theorem dJ6_numberOfTrailingZeros_0f7a4_35 : decode cJ6_numberOfTrailingZeros_0f7a4 35 = .ok (.sipush 256, 3) := by decide +kernel
theorem dJ6_numberOfTrailingZeros_0f7a4_38 : decode cJ6_numberOfTrailingZeros_0f7a4 38 = .ok (.if_icmp .le 11, 3) := by decide +kernel
theorem dJ6_numberOfTrailingZeros_0f7a4_41 : decode cJ6_numberOfTrailingZeros_0f7a4 41 = .ok (.iinc 1 8, 3) := by decide +kernel
theorem dJ6_numberOfTrailingZeros_0f7a4_44 : decode cJ6_numberOfTrailingZeros_0f7a4 44 = .ok (.iload_n 0, 1) := by decide +kernel
theorem dJ6_numberOfTrailingZeros_0f7a4_45 : decode cJ6_numberOfTrailingZeros_0f7a4 45 = .ok (.bipush 8, 2) := by decide +kernel
theorem dJ6_numberOfTrailingZeros_0f7a4_47 : decode cJ6_numberOfTrailingZeros_0f7a4 47 = .ok (.iushr, 1) := by decide +kernel
theorem dJ6_numberOfTrailingZeros_0f7a4_48 : decode cJ6_numberOfTrailingZeros_0f7a4 48 = .ok (.istore_n 0, 1) := by decide +kernel
theorem dJ6_numberOfTrailingZeros_0f7a4_49 : decode cJ6_numberOfTrailingZeros_0f7a4 49 = .ok (.iload_n 0, 1) := by decide +kernel
theorem dJ6_numberOfTrailingZeros_0f7a4_50 : decode cJ6_numberOfTrailingZeros_0f7a4 50 = .ok (.bipush 16, 2) := by decide +kernel
theorem dJ6_numberOfTrailingZeros_0f7a4_52 : decode cJ6_numberOfTrailingZeros_0f7a4 52 = .ok (.if_icmp .le 10, 3) := by decide +kernel
theorem dJ6_numberOfTrailingZeros_0f7a4_55 : decode cJ6_numberOfTrailingZeros_0f7a4 55 = .ok (.iinc 1 4, 3) := by decide +kernel
theorem dJ6_numberOfTrailingZeros_0f7a4_58 : decode cJ6_numberOfTrailingZeros_0f7a4 58 = .ok (.iload_n 0, 1) := by decide +kernel
theorem dJ6_numberOfTrailingZeros_0f7a4_59 : decode cJ6_numberOfTrailingZeros_0f7a4 59 = .ok (.iconst 4, 1) := by decide +kernel
theorem dJ6_numberOfTrailingZeros_0f7a4_60 : decode cJ6_numberOfTrailingZeros_0f7a4 60 = .ok (.iushr, 1) := by decide +kernel
theorem dJ6_numberOfTrailingZeros_0f7a4_61 : decode cJ6_numberOfTrailingZeros_0f7a4 61 = .ok (.istore_n 0, 1) := by decide +kernel
theorem dJ6_numberOfTrailingZeros_0f7a4_62 : decode cJ6_numberOfTrailingZeros_0f7a4 62 = .ok (.iload_n 0, 1) := by decide +kernel
theorem dJ6_numberOfTrailingZeros_0f7a4_63 : decode cJ6_numberOfTrailingZeros_0f7a4 63 = .ok (.iconst 4, 1) := by decide +kernel
theorem dJ6_numberOfTrailingZeros_0f7a4_64 : decode cJ6_numberOfTrailingZeros_0f7a4 64 = .ok (.if_icmp .le 10, 3) := by decide +kernel
theorem dJ6_numberOfTrailingZeros_0f7a4_67 : decode cJ6_numberOfTrailingZeros_0f7a4 67 = .ok (.iinc 1 2, 3) := by decide +kernel
theorem dJ6_numberOfTrailingZeros_0f7a4_70 : decode cJ6_numberOfTrailingZeros_0f7a4 70 = .ok (.iload_n 0, 1) := by decide +kernel
theorem dJ6_numberOfTrailingZeros_0f7a4_71 : decode cJ6_numberOfTrailingZeros_0f7a4 71 = .ok (.iconst 2, 1) := by decide +kernel
theorem dJ6_numberOfTrailingZeros_0f7a4_72 : decode cJ6_numberOfTrailingZeros_0f7a4 72 = .ok (.iushr, 1) := by decide +kernel
theorem dJ6_numberOfTrailingZeros_0f7a4_73 : decode cJ6_numberOfTrailingZeros_0f7a4 73 = .ok (.istore_n 0, 1) := by decide +kernel
theorem dJ6_numberOfTrailingZeros_0f7a4_74 : decode cJ6_numberOfTrailingZeros_0f7a4 74 = .ok (.iload_n 1, 1) := by decide +kernel
theorem dJ6_numberOfTrailingZeros_0f7a4_75 : decode cJ6_numberOfTrailingZeros_0f7a4 75 = .ok (.iload_n 0, 1) := by decide +kernel
theorem dJ6_numberOfTrailingZeros_0f7a4_76 : decode cJ6_numberOfTrailingZeros_0f7a4 76 = .ok (.iconst 1, 1) := by decide +kernel
theorem dJ6_numberOfTrailingZeros_0f7a4_77 : decode cJ6_numberOfTrailingZeros_0f7a4 77 = .ok (.iushr, 1) := by decide +kernel
theorem dJ6_numberOfTrailingZeros_0f7a4_78 : decode cJ6_numberOfTrailingZeros_0f7a4 78 = .ok (.iadd, 1) := by decide +kernel
theorem dJ6_numberOfTrailingZeros_0f7a4_79 : decode cJ6_numberOfTrailingZeros_0f7a4 79 = .ok (.ireturn, 1) := by decide +kernel
theorem dJ6_bitCount_0f7a4_0 : decode cJ6_bitCount_0f7a4 0 = .ok (.iload_n 0, 1) := by decide +kernel
theorem dJ6_bitCount_0f7a4_1 : decode cJ6_bitCount_0f7a4 1 = .ok (.iload_n 0, 1) := by decide +kernel
theorem dJ6_bitCount_0f7a4_2 : decode cJ6_bitCount_0f7a4 2 = .ok (.iconst 1, 1) := by decide +kernel
theorem dJ6_bitCount_0f7a4_3 : decode cJ6_bitCount_0f7a4 3 = .ok (.iushr, 1) := by decide +kernel
theorem dJ6_bitCount_0f7a4_4 : decode cJ6_bitCount_0f7a4 4 = .ok (.ldc_w 265, 3) := by decide +kernel
theorem dJ6_bitCount_0f7a4_7 : decode cJ6_bitCount_0f7a4 7 = .ok (.iand, 1) := by decide +kernel
theorem dJ6_bitCount_0f7a4_8 : decode cJ6_bitCount_0f7a4 8 = .ok (.isub, 1) := by decide +kernel
theorem dJ6_bitCount_0f7a4_9 : decode cJ6_bitCount_0f7a4 9 = .ok (.istore_n 0, 1) := by decide +kernel
theorem dJ6_bitCount_0f7a4_10 : decode cJ6_bitCount_0f7a4 10 = .ok (.iload_n 0, 1) := by decide +kernel
theorem dJ6_bitCount_0f7a4_11 : decode cJ6_bitCount_0f7a4 11 = .ok (.ldc_w 266, 3) := by decide +kernel
theorem dJ6_bitCount_0f7a4_14 : decode cJ6_bitCount_0f7a4 14 = .ok (.iand, 1) := by decide +kernel
theorem dJ6_bitCount_0f7a4_15 : decode cJ6_bitCount_0f7a4 15 = .ok (.iload_n 0, 1) := by decide +kernel
theorem dJ6_bitCount_0f7a4_16 : decode cJ6_bitCount_0f7a4 16 = .ok (.iconst 2, 1) := by decide +kernel
theorem dJ6_bitCount_0f7a4_17 : decode cJ6_bitCount_0f7a4 17 = .ok (.iushr, 1) := by decide +kernel
theorem dJ6_bitCount_0f7a4_18 : decode cJ6_bitCount_0f7a4 18 = .ok (.ldc_w 266, 3) := by decide +kernel
theorem dJ6_bitCount_0f7a4_21 : decode cJ6_bitCount_0f7a4 21 = .ok (.iand, 1) := by decide +kernel
theorem dJ6_bitCount_0f7a4_22 : decode cJ6_bitCount_0f7a4 22 = .ok (.iadd, 1) := by decide +kernel
theorem dJ6_bitCount_0f7a4_23 : decode cJ6_bitCount_0f7a4 23 = .ok (.istore_n 0, 1) := by decide +kernel
theorem dJ6_bitCount_0f7a4_24 : decode cJ6_bitCount_0f7a4 24 = .ok (.iload_n 0, 1) := by decide +kernel
theorem dJ6_bitCount_0f7a4_25 : decode cJ6_bitCount_0f7a4 25 = .ok (.iload_n 0, 1) := by decide +kernel
theorem dJ6_bitCount_0f7a4_26 : decode cJ6_bitCount_0f7a4 26 = .ok (.iconst 4, 1) := by decide +kernel
theorem dJ6_bitCount_0f7a4_27 : decode cJ6_bitCount_0f7a4 27 = .ok (.iushr, 1) := by decide +kernel
theorem dJ6_bitCount_0f7a4_28 : decode cJ6_bitCount_0f7a4 28 = .ok (.iadd, 1) := by decide +kernel
theorem dJ6_bitCount_0f7a4_29 : decode cJ6_bitCount_0f7a4 29 = .ok (.ldc_w 267, 3) := by decide +kernel
theorem dJ6_bitCount_0f7a4_32 : decode cJ6_bitCount_0f7a4 32 = .ok (.iand, 1) := by decide +kernel
theorem dJ6_bitCount_0f7a4_33 : decode cJ6_bitCount_0f7a4 33 = .ok (.istore_n 0, 1) := by decide +kernel
theorem dJ6_bitCount_0f7a4_34 : decode cJ6_bitCount_0f7a4 34 = .ok (.iload_n 0, 1) := by decide +kernel
theorem dJ6_bitCount_0f7a4_35 : decode cJ6_bitCount_0f7a4 35 = .ok (.iload_n 0, 1) := by decide +kernel
theorem dJ6_bitCount_0f7a4_36 : decode cJ6_bitCount_0f7a4 36 = .ok (.bipush 8, 2) := by decide +kernel
theorem dJ6_bitCount_0f7a4_38 : decode cJ6_bitCount_0f7a4 38 = .ok (.iushr, 1) := by decide +kernel
theorem dJ6_bitCount_0f7a4_39 : decode cJ6_bitCount_0f7a4 39 = .ok (.iadd, 1) := by decide +kernel
theorem dJ6_bitCount_0f7a4_40 : decode cJ6_bitCount_0f7a4 40 = .ok (.istore_n 0, 1) := by decide +kernel
theorem dJ6_bitCount_0f7a4_41 : decode cJ6_bitCount_0f7a4 41 = .ok (.iload_n 0, 1) := by decide +kernel
theorem dJ6_bitCount_0f7a4_42 : decode cJ6_bitCount_0f7a4 42 = .ok (.iload_n 0, 1) := by decide +kernel
theorem dJ6_bitCount_0f7a4_43 : decode cJ6_bitCount_0f7a4 43 = .ok (.bipush 16, 2) := by decide +kernel
theorem dJ6_bitCount_0f7a4_45 : decode cJ6_bitCount_0f7a4 45 = .ok (.iushr, 1) := by decide +kernel
theorem dJ6_bitCount_0f7a4_46 : decode cJ6_bitCount_0f7a4 46 = .ok (.iadd, 1) := by decide +kernel
theorem dJ6_bitCount_0f7a4_47 : decode cJ6_bitCount_0f7a4 47 = .ok (.istore_n 0, 1) := by decide +kernel
theorem dJ6_bitCount_0f7a4_48 : decode cJ6_bitCount_0f7a4 48 = .ok (.iload_n 0, 1) := by decide +kernel
theorem dJ6_bitCount_0f7a4_49 : decode cJ6_bitCount_0f7a4 49 = .ok (.bipush 63, 2) := by decide +kernel
theorem dJ6_bitCount_0f7a4_51 : decode cJ6_bitCount_0f7a4 51 = .ok (.iand, 1) := by decide +kernel
theorem dJ6_bitCount_0f7a4_52 : decode cJ6_bitCount_0f7a4 52 = .ok (.ireturn, 1) := by decide +kernel
theorem dJ9_max_7cf53_0 : decode cJ9_max_7cf53 0 = .ok (.iload_n 0, 1) := by decide +kernel
theorem dJ9_max_7cf53_1 : decode cJ9_max_7cf53 1 = .ok (.iload_n 1, 1) := by decide +kernel
theorem dJ9_max_7cf53_2 : decode cJ9_max_7cf53 2 = .ok (.if_icmp .lt 7, 3) := by decide +kernel
theorem dJ9_max_7cf53_5 : decode cJ9_max_7cf53 5 = .ok (.iload_n 0, 1) := by decide +kernel
theorem dJ9_max_7cf53_6 : decode cJ9_max_7cf53 6 = .ok (.goto 4, 3) := by decide +kernel
theorem dJ9_max_7cf53_9 : decode cJ9_max_7cf53 9 = .ok (.iload_n 1, 1) := by decide +kernel
theorem dJ9_max_7cf53_10 : decode cJ9_max_7cf53 10 = .ok (.ireturn, 1) := by decide +kernel
theorem dJ9_min_7cf53_0 : decode cJ9_min_7cf53 0 = .ok (.iload_n 0, 1) := by decide +kernel
theorem dJ9_min_7cf53_1 : decode cJ9_min_7cf53 1 = .ok (.iload_n 1, 1) := by decide +kernel
theorem dJ9_min_7cf53_2 : decode cJ9_min_7cf53 2 = .ok (.if_icmp .gt 7, 3) := by decide +kernel
theorem dJ9_min_7cf53_5 : decode cJ9_min_7cf53 5 = .ok (.iload_n 0, 1) := by decide +kernel
theorem dJ9_min_7cf53_6 : decode cJ9_min_7cf53 6 = .ok (.goto 4, 3) := by decide +kernel
theorem dJ9_min_7cf53_9 : decode cJ9_min_7cf53 9 = .ok (.iload_n 1, 1) := by decide +kernel
theorem dJ9_min_7cf53_10 : decode cJ9_min_7cf53 10 = .ok (.ireturn, 1) := by decide +kernel
theorem dJ7_fill_53178_0 : decode cJ7_fill_53178 0 = .ok (.iconst 0, 1) := by decide +kernel
theorem dJ7_fill_53178_1 : decode cJ7_fill_53178 1 = .ok (.istore_n 2, 1) := by decide +kernel
theorem dJ7_fill_53178_2 : decode cJ7_fill_53178 2 = .ok (.aload_n 0, 1) := by decide +kernel
theorem dJ7_fill_53178_3 : decode cJ7_fill_53178 3 = .ok (.arraylength, 1) := by decide +kernel
theorem dJ7_fill_53178_4 : decode cJ7_fill_53178 4 = .ok (.istore_n 3, 1) := by decide +kernel
theorem dJ7_fill_53178_5 : decode cJ7_fill_53178 5 = .ok (.iload_n 2, 1) := by decide +kernel
theorem dJ7_fill_53178_6 : decode cJ7_fill_53178 6 = .ok (.iload_n 3, 1) := by decide +kernel
theorem dJ7_fill_53178_7 : decode cJ7_fill_53178 7 = .ok (.if_icmp .ge 13, 3) := by decide +kernel
theorem dJ7_fill_53178_10 : decode cJ7_fill_53178 10 = .ok (.aload_n 0, 1) := by decide +kernel
theorem dJ7_fill_53178_11 : decode cJ7_fill_53178 11 = .ok (.iload_n 2, 1) := by decide +kernel
theorem dJ7_fill_53178_12 : decode cJ7_fill_53178 12 = .ok (.iload_n 1, 1) := by decide +kernel
theorem dJ7_fill_53178_13 : decode cJ7_fill_53178 13 = .ok (.iastore, 1) := by decide +kernel
theorem dJ7_fill_53178_14 : decode cJ7_fill_53178 14 = .ok (.iinc 2 1, 3) := by decide +kernel
theorem dJ7_fill_53178_17 : decode cJ7_fill_53178 17 = .ok (.goto (-12), 3) := by decide +kernel
theorem dJ7_fill_53178_20 : decode cJ7_fill_53178 20 = .ok (.return_, 1) := by decide +kernel
end
section
theorem dX9_init_0 : decode cX9_init 0 = .ok (.aload_n 0, 1) := by decide +kernel
theorem dX9_init_1 : decode cX9_init 1 = .ok (.invokespecial 1, 3) := by decide +kernel
theorem dX9_init_4 : decode cX9_init 4 = .ok (.aload_n 0, 1) := by decide +kernel
theorem dX9_init_5 : decode cX9_init 5 = .ok (.bipush 7, 2) := by decide +kernel
theorem dX9_init_7 : decode cX9_init 7 = .ok (.newarray .int, 2) := by decide +kernel
theorem dX9_init_9 : decode cX9_init 9 = .ok (.putfield 7, 3) := by decide +kernel
theorem dX9_init_12 : decode cX9_init 12 = .ok (.aload_n 0, 1) := by decide +kernel
theorem dX9_init_13 : decode cX9_init 13 = .ok (.iconst 4, 1) := by decide +kernel
theorem dX9_init_14 : decode cX9_init 14 = .ok (.putfield 13, 3) := by decide +kernel
theorem dX9_init_17 : decode cX9_init 17 = .ok (.aload_n 0, 1) := by decide +kernel
theorem dX9_init_18 : decode cX9_init 18 = .ok (.bipush 12, 2) := by decide +kernel
theorem dX9_init_20 : decode cX9_init 20 = .ok (.newarray .int, 2) := by decide +kernel
theorem dX9_init_22 : decode cX9_init 22 = .ok (.putfield 17, 3) := by decide +kernel
theorem dX9_init_25 : decode cX9_init 25 = .ok (.aload_n 0, 1) := by decide +kernel
theorem dX9_init_26 : decode cX9_init 26 = .ok (.bipush 12, 2) := by decide +kernel
theorem dX9_init_28 : decode cX9_init 28 = .ok (.newarray .int, 2) := by decide +kernel
theorem dX9_init_30 : decode cX9_init 30 = .ok (.putfield 20, 3) := by decide +kernel
theorem dX9_init_33 : decode cX9_init 33 = .ok (.aload_n 0, 1) := by decide +kernel
theorem dX9_init_34 : decode cX9_init 34 = .ok (.bipush 12, 2) := by decide +kernel
theorem dX9_init_36 : decode cX9_init 36 = .ok (.newarray .int, 2) := by decide +kernel
theorem dX9_init_38 : decode cX9_init 38 = .ok (.putfield 23, 3) := by decide +kernel
theorem dX9_init_41 : decode cX9_init 41 = .ok (.aload_n 0, 1) := by decide +kernel
theorem dX9_init_42 : decode cX9_init 42 = .ok (.bipush 10, 2) := by decide +kernel
theorem dX9_init_44 : decode cX9_init 44 = .ok (.newarray .int, 2) := by decide +kernel
theorem dX9_init_46 : decode cX9_init 46 = .ok (.putfield 26, 3) := by decide +kernel
theorem dX9_init_49 : decode cX9_init 49 = .ok (.aload_n 0, 1) := by decide +kernel
theorem dX9_init_50 : decode cX9_init 50 = .ok (.bipush 60, 2) := by decide +kernel
theorem dX9_init_52 : decode cX9_init 52 = .ok (.newarray .int, 2) := by decide +kernel
theorem dX9_init_54 : decode cX9_init 54 = .ok (.putfield 29, 3) := by decide +kernel
theorem dX9_init_57 : decode cX9_init 57 = .ok (.aload_n 0, 1) := by decide +kernel
theorem dX9_init_58 : decode cX9_init 58 = .ok (.iconst 1, 1) := by decide +kernel
theorem dX9_init_59 : decode cX9_init 59 = .ok (.putfield 32, 3) := by decide +kernel
theorem dX9_init_62 : decode cX9_init 62 = .ok (.aload_n 0, 1) := by decide +kernel
theorem dX9_init_63 : decode cX9_init 63 = .ok (.bipush 12, 2) := by decide +kernel
theorem dX9_init_65 : decode cX9_init 65 = .ok (.newarray .int, 2) := by decide +kernel
theorem dX9_init_67 : decode cX9_init 67 = .ok (.putfield 35, 3) := by decide +kernel
theorem dX9_init_70 : decode cX9_init 70 = .ok (.aload_n 0, 1) := by decide +kernel
theorem dX9_init_71 : decode cX9_init 71 = .ok (.ldc 38, 2) := by decide +kernel
theorem dX9_init_73 : decode cX9_init 73 = .ok (.newarray .int, 2) := by decide +kernel
theorem dX9_init_75 : decode cX9_init 75 = .ok (.putfield 39, 3) := by decide +kernel
theorem dX9_init_78 : decode cX9_init 78 = .ok (.aload_n 0, 1) := by decide +kernel
theorem dX9_init_79 : decode cX9_init 79 = .ok (.ldc 38, 2) := by decide +kernel
theorem dX9_init_81 : decode cX9_init 81 = .ok (.newarray .int, 2) := by decide +kernel
theorem dX9_init_83 : decode cX9_init 83 = .ok (.putfield 42, 3) := by decide +kernel
theorem dX9_init_86 : decode cX9_init 86 = .ok (.aload_n 0, 1) := by decide +kernel
theorem dX9_init_87 : decode cX9_init 87 = .ok (.iconst (-1), 1) := by decide +kernel
theorem dX9_init_88 : decode cX9_init 88 = .ok (.putfield 45, 3) := by decide +kernel
theorem dX9_init_91 : decode cX9_init 91 = .ok (.aload_n 0, 1) := by decide +kernel
theorem dX9_init_92 : decode cX9_init 92 = .ok (.ldc 38, 2) := by decide +kernel
theorem dX9_init_94 : decode cX9_init 94 = .ok (.newarray .boolean, 2) := by decide +kernel
theorem dX9_init_96 : decode cX9_init 96 = .ok (.putfield 48, 3) := by decide +kernel
theorem dX9_init_99 : decode cX9_init 99 = .ok (.aload_n 0, 1) := by decide +kernel
theorem dX9_init_100 : decode cX9_init 100 = .ok (.sipush 301, 3) := by decide +kernel
theorem dX9_init_103 : decode cX9_init 103 = .ok (.newarray .int, 2) := by decide +kernel
theorem dX9_init_105 : decode cX9_init 105 = .ok (.putfield 52, 3) := by decide +kernel
theorem dX9_init_108 : decode cX9_init 108 = .ok (.aload_n 0, 1) := by decide +kernel
theorem dX9_init_109 : decode cX9_init 109 = .ok (.iconst 4, 1) := by decide +kernel
theorem dX9_init_110 : decode cX9_init 110 = .ok (.newarray .int, 2) := by decide +kernel
theorem dX9_init_112 : decode cX9_init 112 = .ok (.putfield 55, 3) := by decide +kernel
theorem dX9_init_115 : decode cX9_init 115 = .ok (.aload_n 0, 1) := by decide +kernel
theorem dX9_init_116 : decode cX9_init 116 = .ok (.iconst 4, 1) := by decide +kernel
theorem dX9_init_117 : decode cX9_init 117 = .ok (.newarray .int, 2) := by decide +kernel
theorem dX9_init_119 : decode cX9_init 119 = .ok (.putfield 58, 3) := by decide +kernel
theorem dX9_init_122 : decode cX9_init 122 = .ok (.aload_n 0, 1) := by decide +kernel
theorem dX9_init_123 : decode cX9_init 123 = .ok (.bipush 96, 2) := by decide +kernel
theorem dX9_init_125 : decode cX9_init 125 = .ok (.newarray .int, 2) := by decide +kernel
theorem dX9_init_127 : decode cX9_init 127 = .ok (.putfield 61, 3) := by decide +kernel
theorem dX9_init_130 : decode cX9_init 130 = .ok (.aload_n 0, 1) := by decide +kernel
theorem dX9_init_131 : decode cX9_init 131 = .ok (.bipush 39, 2) := by decide +kernel
theorem dX9_init_133 : decode cX9_init 133 = .ok (.newarray .int, 2) := by decide +kernel
theorem dX9_init_135 : decode cX9_init 135 = .ok (.putfield 64, 3) := by decide +kernel
theorem dX9_init_138 : decode cX9_init 138 = .ok (.return_, 1) := by decide +kernel
theorem dX9_no_0 : decode cX9_no 0 = .ok (.aload_n 0, 1) := by decide +kernel
theorem dX9_no_1 : decode cX9_no 1 = .ok (.getfield 7, 3) := by decide +kernel
theorem dX9_no_4 : decode cX9_no 4 = .ok (.iload_n 1, 1) := by decide +kernel
theorem dX9_no_5 : decode cX9_no 5 = .ok (.dup2, 1) := by decide +kernel
theorem dX9_no_6 : decode cX9_no 6 = .ok (.iaload, 1) := by decide +kernel
theorem dX9_no_7 : decode cX9_no 7 = .ok (.iconst 1, 1) := by decide +kernel
theorem dX9_no_8 : decode cX9_no 8 = .ok (.iadd, 1) := by decide +kernel
theorem dX9_no_9 : decode cX9_no 9 = .ok (.iastore, 1) := by decide +kernel
theorem dX9_no_10 : decode cX9_no 10 = .ok (.ldc 67, 2) := by decide +kernel
theorem dX9_no_12 : decode cX9_no 12 = .ok (.iload_n 1, 1) := by decide +kernel
theorem dX9_no_13 : decode cX9_no 13 = .ok (.isub, 1) := by decide +kernel
theorem dX9_no_14 : decode cX9_no 14 = .ok (.ireturn, 1) := by decide +kernel
theorem dX9_in_0 : decode cX9_in 0 = .ok (.iload_n 0, 1) := by decide +kernel
theorem dX9_in_1 : decode cX9_in 1 = .ok (.iload_n 1, 1) := by decide +kernel
theorem dX9_in_2 : decode cX9_in 2 = .ok (.if_icmp .lt 12, 3) := by decide +kernel
theorem dX9_in_5 : decode cX9_in 5 = .ok (.iload_n 0, 1) := by decide +kernel
theorem dX9_in_6 : decode cX9_in 6 = .ok (.iload_n 2, 1) := by decide +kernel
theorem dX9_in_7 : decode cX9_in 7 = .ok (.if_icmp .gt 7, 3) := by decide +kernel
theorem dX9_in_10 : decode cX9_in 10 = .ok (.iconst 1, 1) := by decide +kernel
theorem dX9_in_11 : decode cX9_in 11 = .ok (.goto 4, 3) := by decide +kernel
theorem dX9_in_14 : decode cX9_in 14 = .ok (.iconst 0, 1) := by decide +kernel
theorem dX9_in_15 : decode cX9_in 15 = .ok (.ireturn, 1) := by decide +kernel
theorem dX9_has_0 : decode cX9_has 0 = .ok (.iload_n 0, 1) := by decide +kernel
theorem dX9_has_1 : decode cX9_has 1 = .ok (.iload_n 1, 1) := by decide +kernel
theorem dX9_has_2 : decode cX9_has 2 = .ok (.ishr, 1) := by decide +kernel
theorem dX9_has_3 : decode cX9_has 3 = .ok (.iconst 1, 1) := by decide +kernel
theorem dX9_has_4 : decode cX9_has 4 = .ok (.iand, 1) := by decide +kernel
theorem dX9_has_5 : decode cX9_has 5 = .ok (.iconst 1, 1) := by decide +kernel
theorem dX9_has_6 : decode cX9_has 6 = .ok (.if_icmp .ne 7, 3) := by decide +kernel
theorem dX9_has_9 : decode cX9_has 9 = .ok (.iconst 1, 1) := by decide +kernel
theorem dX9_has_10 : decode cX9_has 10 = .ok (.goto 4, 3) := by decide +kernel
theorem dX9_has_13 : decode cX9_has 13 = .ok (.iconst 0, 1) := by decide +kernel
theorem dX9_has_14 : decode cX9_has 14 = .ok (.ireturn, 1) := by decide +kernel
theorem dX9_ones_0 : decode cX9_ones 0 = .ok (.iconst 0, 1) := by decide +kernel
theorem dX9_ones_1 : decode cX9_ones 1 = .ok (.istore_n 1, 1) := by decide +kernel
theorem dX9_ones_2 : decode cX9_ones 2 = .ok (.iload_n 0, 1) := by decide +kernel
theorem dX9_ones_3 : decode cX9_ones 3 = .ok (.istore_n 2, 1) := by decide +kernel
theorem dX9_ones_4 : decode cX9_ones 4 = .ok (.iload_n 2, 1) := by decide +kernel
theorem dX9_ones_5 : decode cX9_ones 5 = .ok (.ifCond .eq 15, 3) := by decide +kernel
theorem dX9_ones_8 : decode cX9_ones 8 = .ok (.iinc 1 1, 3) := by decide +kernel
theorem dX9_ones_11 : decode cX9_ones 11 = .ok (.iload_n 2, 1) := by decide +kernel
theorem dX9_ones_12 : decode cX9_ones 12 = .ok (.iload_n 2, 1) := by decide +kernel
theorem dX9_ones_13 : decode cX9_ones 13 = .ok (.iconst 1, 1) := by decide +kernel
theorem dX9_ones_14 : decode cX9_ones 14 = .ok (.isub, 1) := by decide +kernel
theorem dX9_ones_15 : decode cX9_ones 15 = .ok (.iand, 1) := by decide +kernel
theorem dX9_ones_16 : decode cX9_ones 16 = .ok (.istore_n 2, 1) := by decide +kernel
theorem dX9_ones_17 : decode cX9_ones 17 = .ok (.goto (-13), 3) := by decide +kernel
theorem dX9_ones_20 : decode cX9_ones 20 = .ok (.iload_n 1, 1) := by decide +kernel
theorem dX9_ones_21 : decode cX9_ones 21 = .ok (.ireturn, 1) := by decide +kernel
theorem dX9_isPoint_0 : decode cX9_isPoint 0 = .ok (.iload_n 1, 1) := by decide +kernel
theorem dX9_isPoint_1 : decode cX9_isPoint 1 = .ok (.iconst 0, 1) := by decide +kernel
theorem dX9_isPoint_2 : decode cX9_isPoint 2 = .ok (.aload_n 0, 1) := by decide +kernel
theorem dX9_isPoint_3 : decode cX9_isPoint 3 = .ok (.getfield 13, 3) := by decide +kernel
theorem dX9_isPoint_6 : decode cX9_isPoint 6 = .ok (.iconst 1, 1) := by decide +kernel
theorem dX9_isPoint_7 : decode cX9_isPoint 7 = .ok (.isub, 1) := by decide +kernel
theorem dX9_isPoint_8 : decode cX9_isPoint 8 = .ok (.invokestatic 68, 3) := by decide +kernel
theorem dX9_isPoint_11 : decode cX9_isPoint 11 = .ok (.ireturn, 1) := by decide +kernel
theorem dX9_isLine_0 : decode cX9_isLine 0 = .ok (.iload_n 1, 1) := by decide +kernel
theorem dX9_isLine_1 : decode cX9_isLine 1 = .ok (.iconst 0, 1) := by decide +kernel
theorem dX9_isLine_2 : decode cX9_isLine 2 = .ok (.aload_n 0, 1) := by decide +kernel
theorem dX9_isLine_3 : decode cX9_isLine 3 = .ok (.getfield 72, 3) := by decide +kernel
theorem dX9_isLine_6 : decode cX9_isLine 6 = .ok (.iconst 1, 1) := by decide +kernel
theorem dX9_isLine_7 : decode cX9_isLine 7 = .ok (.isub, 1) := by decide +kernel
theorem dX9_isLine_8 : decode cX9_isLine 8 = .ok (.invokestatic 68, 3) := by decide +kernel
theorem dX9_isLine_11 : decode cX9_isLine 11 = .ok (.ireturn, 1) := by decide +kernel
theorem dX9_all_0 : decode cX9_all 0 = .ok (.iconst 1, 1) := by decide +kernel
theorem dX9_all_1 : decode cX9_all 1 = .ok (.aload_n 0, 1) := by decide +kernel
theorem dX9_all_2 : decode cX9_all 2 = .ok (.getfield 13, 3) := by decide +kernel
theorem dX9_all_5 : decode cX9_all 5 = .ok (.ishl, 1) := by decide +kernel
theorem dX9_all_6 : decode cX9_all 6 = .ok (.iconst 1, 1) := by decide +kernel
theorem dX9_all_7 : decode cX9_all 7 = .ok (.isub, 1) := by decide +kernel
theorem dX9_all_8 : decode cX9_all 8 = .ok (.ireturn, 1) := by decide +kernel
theorem dX9_isNew_0 : decode cX9_isNew 0 = .ok (.aload_n 0, 1) := by decide +kernel
theorem dX9_isNew_1 : decode cX9_isNew 1 = .ok (.iconst 0, 1) := by decide +kernel
theorem dX9_isNew_2 : decode cX9_isNew 2 = .ok (.putfield 75, 3) := by decide +kernel
theorem dX9_isNew_5 : decode cX9_isNew 5 = .ok (.aload_n 0, 1) := by decide +kernel
theorem dX9_isNew_6 : decode cX9_isNew 6 = .ok (.iconst (-1), 1) := by decide +kernel
theorem dX9_isNew_7 : decode cX9_isNew 7 = .ok (.putfield 45, 3) := by decide +kernel
theorem dX9_isNew_10 : decode cX9_isNew 10 = .ok (.return_, 1) := by decide +kernel
theorem dX9_points_0 : decode cX9_points 0 = .ok (.iload_n 1, 1) := by decide +kernel
theorem dX9_points_1 : decode cX9_points 1 = .ok (.iconst 1, 1) := by decide +kernel
theorem dX9_points_2 : decode cX9_points 2 = .ok (.bipush 10, 2) := by decide +kernel
theorem dX9_points_4 : decode cX9_points 4 = .ok (.invokestatic 68, 3) := by decide +kernel
theorem dX9_points_7 : decode cX9_points 7 = .ok (.ifCond .ne 9, 3) := by decide +kernel
theorem dX9_points_10 : decode cX9_points 10 = .ok (.aload_n 0, 1) := by decide +kernel
theorem dX9_points_11 : decode cX9_points 11 = .ok (.iconst 1, 1) := by decide +kernel
theorem dX9_points_12 : decode cX9_points 12 = .ok (.invokevirtual 79, 3) := by decide +kernel
theorem dX9_points_15 : decode cX9_points 15 = .ok (.ireturn, 1) := by decide +kernel
theorem dX9_points_16 : decode cX9_points 16 = .ok (.aload_n 0, 1) := by decide +kernel
theorem dX9_points_17 : decode cX9_points 17 = .ok (.getfield 13, 3) := by decide +kernel
theorem dX9_points_20 : decode cX9_points 20 = .ok (.istore_n 2, 1) := by decide +kernel
theorem dX9_points_21 : decode cX9_points 21 = .ok (.aload_n 0, 1) := by decide +kernel
theorem dX9_points_22 : decode cX9_points 22 = .ok (.iload_n 1, 1) := by decide +kernel
theorem dX9_points_23 : decode cX9_points 23 = .ok (.putfield 13, 3) := by decide +kernel
theorem dX9_points_26 : decode cX9_points 26 = .ok (.aload_n 0, 1) := by decide +kernel
theorem dX9_points_27 : decode cX9_points 27 = .ok (.iconst 0, 1) := by decide +kernel
theorem dX9_points_28 : decode cX9_points 28 = .ok (.putfield 72, 3) := by decide +kernel
theorem dX9_points_31 : decode cX9_points 31 = .ok (.aload_n 0, 1) := by decide +kernel
theorem dX9_points_32 : decode cX9_points 32 = .ok (.invokevirtual 83, 3) := by decide +kernel
theorem dX9_points_35 : decode cX9_points 35 = .ok (.iload_n 2, 1) := by decide +kernel
theorem dX9_points_36 : decode cX9_points 36 = .ok (.ireturn, 1) := by decide +kernel
theorem dX9_comes_0 : decode cX9_comes 0 = .ok (.aload_n 0, 1) := by decide +kernel
theorem dX9_comes_1 : decode cX9_comes 1 = .ok (.getfield 17, 3) := by decide +kernel
theorem dX9_comes_4 : decode cX9_comes 4 = .ok (.aload_n 0, 1) := by decide +kernel
theorem dX9_comes_5 : decode cX9_comes 5 = .ok (.getfield 72, 3) := by decide +kernel
theorem dX9_comes_8 : decode cX9_comes 8 = .ok (.iload_n 1, 1) := by decide +kernel
theorem dX9_comes_9 : decode cX9_comes 9 = .ok (.iastore, 1) := by decide +kernel
theorem dX9_comes_10 : decode cX9_comes 10 = .ok (.aload_n 0, 1) := by decide +kernel
theorem dX9_comes_11 : decode cX9_comes 11 = .ok (.getfield 20, 3) := by decide +kernel
theorem dX9_comes_14 : decode cX9_comes 14 = .ok (.aload_n 0, 1) := by decide +kernel
theorem dX9_comes_15 : decode cX9_comes 15 = .ok (.getfield 72, 3) := by decide +kernel
theorem dX9_comes_18 : decode cX9_comes 18 = .ok (.iload_n 2, 1) := by decide +kernel
theorem dX9_comes_19 : decode cX9_comes 19 = .ok (.iastore, 1) := by decide +kernel
theorem dX9_comes_20 : decode cX9_comes 20 = .ok (.aload_n 0, 1) := by decide +kernel
theorem dX9_comes_21 : decode cX9_comes 21 = .ok (.getfield 23, 3) := by decide +kernel
theorem dX9_comes_24 : decode cX9_comes 24 = .ok (.aload_n 0, 1) := by decide +kernel
theorem dX9_comes_25 : decode cX9_comes 25 = .ok (.getfield 72, 3) := by decide +kernel
theorem dX9_comes_28 : decode cX9_comes 28 = .ok (.iload_n 3, 1) := by decide +kernel
theorem dX9_comes_29 : decode cX9_comes 29 = .ok (.iastore, 1) := by decide +kernel
theorem dX9_comes_30 : decode cX9_comes 30 = .ok (.aload_n 0, 1) := by decide +kernel
theorem dX9_comes_31 : decode cX9_comes 31 = .ok (.dup, 1) := by decide +kernel
theorem dX9_comes_32 : decode cX9_comes 32 = .ok (.getfield 72, 3) := by decide +kernel
theorem dX9_comes_35 : decode cX9_comes 35 = .ok (.iconst 1, 1) := by decide +kernel
theorem dX9_comes_36 : decode cX9_comes 36 = .ok (.iadd, 1) := by decide +kernel
theorem dX9_comes_37 : decode cX9_comes 37 = .ok (.putfield 72, 3) := by decide +kernel
theorem dX9_comes_40 : decode cX9_comes 40 = .ok (.return_, 1) := by decide +kernel
theorem dX9_line_0 : decode cX9_line 0 = .ok (.aload_n 0, 1) := by decide +kernel
theorem dX9_line_1 : decode cX9_line 1 = .ok (.iload_n 1, 1) := by decide +kernel
theorem dX9_line_2 : decode cX9_line 2 = .ok (.invokevirtual 86, 3) := by decide +kernel
theorem dX9_line_5 : decode cX9_line 5 = .ok (.ifCond .eq 20, 3) := by decide +kernel
theorem dX9_line_8 : decode cX9_line 8 = .ok (.aload_n 0, 1) := by decide +kernel
theorem dX9_line_9 : decode cX9_line 9 = .ok (.iload_n 2, 1) := by decide +kernel
theorem dX9_line_10 : decode cX9_line 10 = .ok (.invokevirtual 86, 3) := by decide +kernel
theorem dX9_line_13 : decode cX9_line 13 = .ok (.ifCond .eq 12, 3) := by decide +kernel
theorem dX9_line_16 : decode cX9_line 16 = .ok (.iload_n 3, 1) := by decide +kernel
theorem dX9_line_17 : decode cX9_line 17 = .ok (.iconst 0, 1) := by decide +kernel
theorem dX9_line_18 : decode cX9_line 18 = .ok (.iconst 2, 1) := by decide +kernel
theorem dX9_line_19 : decode cX9_line 19 = .ok (.invokestatic 68, 3) := by decide +kernel
theorem dX9_line_22 : decode cX9_line 22 = .ok (.ifCond .ne 9, 3) := by decide +kernel
theorem dX9_line_25 : decode cX9_line 25 = .ok (.aload_n 0, 1) := by decide +kernel
theorem dX9_line_26 : decode cX9_line 26 = .ok (.iconst 1, 1) := by decide +kernel
theorem dX9_line_27 : decode cX9_line 27 = .ok (.invokevirtual 79, 3) := by decide +kernel
theorem dX9_line_30 : decode cX9_line 30 = .ok (.ireturn, 1) := by decide +kernel
theorem dX9_line_31 : decode cX9_line 31 = .ok (.iload_n 1, 1) := by decide +kernel
theorem dX9_line_32 : decode cX9_line 32 = .ok (.iload_n 2, 1) := by decide +kernel
theorem dX9_line_33 : decode cX9_line 33 = .ok (.if_icmp .ne 9, 3) := by decide +kernel
theorem dX9_line_36 : decode cX9_line 36 = .ok (.aload_n 0, 1) := by decide +kernel
theorem dX9_line_37 : decode cX9_line 37 = .ok (.iconst 5, 1) := by decide +kernel
theorem dX9_line_38 : decode cX9_line 38 = .ok (.invokevirtual 79, 3) := by decide +kernel
theorem dX9_line_41 : decode cX9_line 41 = .ok (.ireturn, 1) := by decide +kernel
theorem dX9_line_42 : decode cX9_line 42 = .ok (.aload_n 0, 1) := by decide +kernel
theorem dX9_line_43 : decode cX9_line 43 = .ok (.getfield 72, 3) := by decide +kernel
theorem dX9_line_46 : decode cX9_line 46 = .ok (.bipush 12, 2) := by decide +kernel
theorem dX9_line_48 : decode cX9_line 48 = .ok (.if_icmp .ne 9, 3) := by decide +kernel
theorem dX9_line_51 : decode cX9_line 51 = .ok (.aload_n 0, 1) := by decide +kernel
theorem dX9_line_52 : decode cX9_line 52 = .ok (.iconst 4, 1) := by decide +kernel
theorem dX9_line_53 : decode cX9_line 53 = .ok (.invokevirtual 79, 3) := by decide +kernel
theorem dX9_line_56 : decode cX9_line 56 = .ok (.ireturn, 1) := by decide +kernel
theorem dX9_line_57 : decode cX9_line 57 = .ok (.aload_n 0, 1) := by decide +kernel
theorem dX9_line_58 : decode cX9_line 58 = .ok (.iload_n 1, 1) := by decide +kernel
theorem dX9_line_59 : decode cX9_line 59 = .ok (.iload_n 2, 1) := by decide +kernel
theorem dX9_line_60 : decode cX9_line 60 = .ok (.iload_n 3, 1) := by decide +kernel
theorem dX9_line_61 : decode cX9_line 61 = .ok (.invokevirtual 90, 3) := by decide +kernel
theorem dX9_line_64 : decode cX9_line 64 = .ok (.aload_n 0, 1) := by decide +kernel
theorem dX9_line_65 : decode cX9_line 65 = .ok (.invokevirtual 83, 3) := by decide +kernel
theorem dX9_line_68 : decode cX9_line 68 = .ok (.aload_n 0, 1) := by decide +kernel
theorem dX9_line_69 : decode cX9_line 69 = .ok (.getfield 72, 3) := by decide +kernel
theorem dX9_line_72 : decode cX9_line 72 = .ok (.iconst 1, 1) := by decide +kernel
theorem dX9_line_73 : decode cX9_line 73 = .ok (.isub, 1) := by decide +kernel
theorem dX9_line_74 : decode cX9_line 74 = .ok (.ireturn, 1) := by decide +kernel
theorem dX9_way_0 : decode cX9_way 0 = .ok (.aload_n 0, 1) := by decide +kernel
theorem dX9_way_1 : decode cX9_way 1 = .ok (.iload_n 1, 1) := by decide +kernel
theorem dX9_way_2 : decode cX9_way 2 = .ok (.invokevirtual 94, 3) := by decide +kernel
theorem dX9_way_5 : decode cX9_way 5 = .ok (.ifCond .eq 12, 3) := by decide +kernel
theorem dX9_way_8 : decode cX9_way 8 = .ok (.iload_n 2, 1) := by decide +kernel
theorem dX9_way_9 : decode cX9_way 9 = .ok (.iconst 0, 1) := by decide +kernel
theorem dX9_way_10 : decode cX9_way 10 = .ok (.iconst 2, 1) := by decide +kernel
theorem dX9_way_11 : decode cX9_way 11 = .ok (.invokestatic 68, 3) := by decide +kernel
theorem dX9_way_14 : decode cX9_way 14 = .ok (.ifCond .ne 9, 3) := by decide +kernel
theorem dX9_way_17 : decode cX9_way 17 = .ok (.aload_n 0, 1) := by decide +kernel
theorem dX9_way_18 : decode cX9_way 18 = .ok (.iconst 1, 1) := by decide +kernel
theorem dX9_way_19 : decode cX9_way 19 = .ok (.invokevirtual 79, 3) := by decide +kernel
theorem dX9_way_22 : decode cX9_way 22 = .ok (.ireturn, 1) := by decide +kernel
theorem dX9_way_23 : decode cX9_way 23 = .ok (.aload_n 0, 1) := by decide +kernel
theorem dX9_way_24 : decode cX9_way 24 = .ok (.getfield 23, 3) := by decide +kernel
theorem dX9_way_27 : decode cX9_way 27 = .ok (.iload_n 1, 1) := by decide +kernel
theorem dX9_way_28 : decode cX9_way 28 = .ok (.iaload, 1) := by decide +kernel
theorem dX9_way_29 : decode cX9_way 29 = .ok (.istore_n 3, 1) := by decide +kernel
theorem dX9_way_30 : decode cX9_way 30 = .ok (.aload_n 0, 1) := by decide +kernel
theorem dX9_way_31 : decode cX9_way 31 = .ok (.getfield 23, 3) := by decide +kernel
theorem dX9_way_34 : decode cX9_way 34 = .ok (.iload_n 1, 1) := by decide +kernel
theorem dX9_way_35 : decode cX9_way 35 = .ok (.iload_n 2, 1) := by decide +kernel
theorem dX9_way_36 : decode cX9_way 36 = .ok (.iastore, 1) := by decide +kernel
theorem dX9_way_37 : decode cX9_way 37 = .ok (.aload_n 0, 1) := by decide +kernel
theorem dX9_way_38 : decode cX9_way 38 = .ok (.invokevirtual 83, 3) := by decide +kernel
theorem dX9_way_41 : decode cX9_way 41 = .ok (.iload_n 3, 1) := by decide +kernel
theorem dX9_way_42 : decode cX9_way 42 = .ok (.ireturn, 1) := by decide +kernel
theorem dX9_cut_0 : decode cX9_cut 0 = .ok (.aload_n 0, 1) := by decide +kernel
theorem dX9_cut_1 : decode cX9_cut 1 = .ok (.iload_n 1, 1) := by decide +kernel
theorem dX9_cut_2 : decode cX9_cut 2 = .ok (.invokevirtual 94, 3) := by decide +kernel
theorem dX9_cut_5 : decode cX9_cut 5 = .ok (.ifCond .ne 9, 3) := by decide +kernel
theorem dX9_cut_8 : decode cX9_cut 8 = .ok (.aload_n 0, 1) := by decide +kernel
theorem dX9_cut_9 : decode cX9_cut 9 = .ok (.iconst 1, 1) := by decide +kernel
theorem dX9_cut_10 : decode cX9_cut 10 = .ok (.invokevirtual 79, 3) := by decide +kernel
theorem dX9_cut_13 : decode cX9_cut 13 = .ok (.ireturn, 1) := by decide +kernel
theorem dX9_cut_14 : decode cX9_cut 14 = .ok (.aload_n 0, 1) := by decide +kernel
theorem dX9_cut_15 : decode cX9_cut 15 = .ok (.dup, 1) := by decide +kernel
theorem dX9_cut_16 : decode cX9_cut 16 = .ok (.getfield 72, 3) := by decide +kernel
theorem dX9_cut_19 : decode cX9_cut 19 = .ok (.iconst 1, 1) := by decide +kernel
theorem dX9_cut_20 : decode cX9_cut 20 = .ok (.isub, 1) := by decide +kernel
theorem dX9_cut_21 : decode cX9_cut 21 = .ok (.putfield 72, 3) := by decide +kernel
theorem dX9_cut_24 : decode cX9_cut 24 = .ok (.iload_n 1, 1) := by decide +kernel
theorem dX9_cut_25 : decode cX9_cut 25 = .ok (.istore_n 2, 1) := by decide +kernel
theorem dX9_cut_26 : decode cX9_cut 26 = .ok (.iload_n 2, 1) := by decide +kernel
theorem dX9_cut_27 : decode cX9_cut 27 = .ok (.aload_n 0, 1) := by decide +kernel
theorem dX9_cut_28 : decode cX9_cut 28 = .ok (.getfield 72, 3) := by decide +kernel
theorem dX9_cut_31 : decode cX9_cut 31 = .ok (.if_icmp .ge 51, 3) := by decide +kernel
theorem dX9_cut_34 : decode cX9_cut 34 = .ok (.aload_n 0, 1) := by decide +kernel
theorem dX9_cut_35 : decode cX9_cut 35 = .ok (.getfield 17, 3) := by decide +kernel
theorem dX9_cut_38 : decode cX9_cut 38 = .ok (.iload_n 2, 1) := by decide +kernel
theorem dX9_cut_39 : decode cX9_cut 39 = .ok (.aload_n 0, 1) := by decide +kernel
theorem dX9_cut_40 : decode cX9_cut 40 = .ok (.getfield 17, 3) := by decide +kernel
theorem dX9_cut_43 : decode cX9_cut 43 = .ok (.iload_n 2, 1) := by decide +kernel
theorem dX9_cut_44 : decode cX9_cut 44 = .ok (.iconst 1, 1) := by decide +kernel
theorem dX9_cut_45 : decode cX9_cut 45 = .ok (.iadd, 1) := by decide +kernel
theorem dX9_cut_46 : decode cX9_cut 46 = .ok (.iaload, 1) := by decide +kernel
theorem dX9_cut_47 : decode cX9_cut 47 = .ok (.iastore, 1) := by decide +kernel
theorem dX9_cut_48 : decode cX9_cut 48 = .ok (.aload_n 0, 1) := by decide +kernel
theorem dX9_cut_49 : decode cX9_cut 49 = .ok (.getfield 20, 3) := by decide +kernel
theorem dX9_cut_52 : decode cX9_cut 52 = .ok (.iload_n 2, 1) := by decide +kernel
theorem dX9_cut_53 : decode cX9_cut 53 = .ok (.aload_n 0, 1) := by decide +kernel
theorem dX9_cut_54 : decode cX9_cut 54 = .ok (.getfield 20, 3) := by decide +kernel
theorem dX9_cut_57 : decode cX9_cut 57 = .ok (.iload_n 2, 1) := by decide +kernel
theorem dX9_cut_58 : decode cX9_cut 58 = .ok (.iconst 1, 1) := by decide +kernel
theorem dX9_cut_59 : decode cX9_cut 59 = .ok (.iadd, 1) := by decide +kernel
theorem dX9_cut_60 : decode cX9_cut 60 = .ok (.iaload, 1) := by decide +kernel
theorem dX9_cut_61 : decode cX9_cut 61 = .ok (.iastore, 1) := by decide +kernel
theorem dX9_cut_62 : decode cX9_cut 62 = .ok (.aload_n 0, 1) := by decide +kernel
theorem dX9_cut_63 : decode cX9_cut 63 = .ok (.getfield 23, 3) := by decide +kernel
theorem dX9_cut_66 : decode cX9_cut 66 = .ok (.iload_n 2, 1) := by decide +kernel
theorem dX9_cut_67 : decode cX9_cut 67 = .ok (.aload_n 0, 1) := by decide +kernel
theorem dX9_cut_68 : decode cX9_cut 68 = .ok (.getfield 23, 3) := by decide +kernel
theorem dX9_cut_71 : decode cX9_cut 71 = .ok (.iload_n 2, 1) := by decide +kernel
theorem dX9_cut_72 : decode cX9_cut 72 = .ok (.iconst 1, 1) := by decide +kernel
theorem dX9_cut_73 : decode cX9_cut 73 = .ok (.iadd, 1) := by decide +kernel
theorem dX9_cut_74 : decode cX9_cut 74 = .ok (.iaload, 1) := by decide +kernel
theorem dX9_cut_75 : decode cX9_cut 75 = .ok (.iastore, 1) := by decide +kernel
theorem dX9_cut_76 : decode cX9_cut 76 = .ok (.iinc 2 1, 3) := by decide +kernel
theorem dX9_cut_79 : decode cX9_cut 79 = .ok (.goto (-53), 3) := by decide +kernel
theorem dX9_cut_82 : decode cX9_cut 82 = .ok (.aload_n 0, 1) := by decide +kernel
theorem dX9_cut_83 : decode cX9_cut 83 = .ok (.invokevirtual 83, 3) := by decide +kernel
theorem dX9_cut_86 : decode cX9_cut 86 = .ok (.aload_n 0, 1) := by decide +kernel
theorem dX9_cut_87 : decode cX9_cut 87 = .ok (.getfield 72, 3) := by decide +kernel
theorem dX9_cut_90 : decode cX9_cut 90 = .ok (.ireturn, 1) := by decide +kernel
theorem dX9_ends_0 : decode cX9_ends 0 = .ok (.aload_n 0, 1) := by decide +kernel
theorem dX9_ends_1 : decode cX9_ends 1 = .ok (.iload_n 1, 1) := by decide +kernel
theorem dX9_ends_2 : decode cX9_ends 2 = .ok (.invokevirtual 94, 3) := by decide +kernel
theorem dX9_ends_5 : decode cX9_ends 5 = .ok (.ifCond .eq 12, 3) := by decide +kernel
theorem dX9_ends_8 : decode cX9_ends 8 = .ok (.iload_n 2, 1) := by decide +kernel
theorem dX9_ends_9 : decode cX9_ends 9 = .ok (.iconst 0, 1) := by decide +kernel
theorem dX9_ends_10 : decode cX9_ends 10 = .ok (.iconst 2, 1) := by decide +kernel
theorem dX9_ends_11 : decode cX9_ends 11 = .ok (.invokestatic 68, 3) := by decide +kernel
theorem dX9_ends_14 : decode cX9_ends 14 = .ok (.ifCond .ne 9, 3) := by decide +kernel
theorem dX9_ends_17 : decode cX9_ends 17 = .ok (.aload_n 0, 1) := by decide +kernel
theorem dX9_ends_18 : decode cX9_ends 18 = .ok (.iconst 1, 1) := by decide +kernel
theorem dX9_ends_19 : decode cX9_ends 19 = .ok (.invokevirtual 79, 3) := by decide +kernel
theorem dX9_ends_22 : decode cX9_ends 22 = .ok (.ireturn, 1) := by decide +kernel
theorem dX9_ends_23 : decode cX9_ends 23 = .ok (.iload_n 2, 1) := by decide +kernel
theorem dX9_ends_24 : decode cX9_ends 24 = .ok (.ifCond .ne 12, 3) := by decide +kernel
theorem dX9_ends_27 : decode cX9_ends 27 = .ok (.aload_n 0, 1) := by decide +kernel
theorem dX9_ends_28 : decode cX9_ends 28 = .ok (.getfield 17, 3) := by decide +kernel
theorem dX9_ends_31 : decode cX9_ends 31 = .ok (.iload_n 1, 1) := by decide +kernel
theorem dX9_ends_32 : decode cX9_ends 32 = .ok (.iaload, 1) := by decide +kernel
theorem dX9_ends_33 : decode cX9_ends 33 = .ok (.goto 23, 3) := by decide +kernel
theorem dX9_ends_36 : decode cX9_ends 36 = .ok (.iload_n 2, 1) := by decide +kernel
theorem dX9_ends_37 : decode cX9_ends 37 = .ok (.iconst 1, 1) := by decide +kernel
theorem dX9_ends_38 : decode cX9_ends 38 = .ok (.if_icmp .ne 12, 3) := by decide +kernel
theorem dX9_ends_41 : decode cX9_ends 41 = .ok (.aload_n 0, 1) := by decide +kernel
theorem dX9_ends_42 : decode cX9_ends 42 = .ok (.getfield 20, 3) := by decide +kernel
theorem dX9_ends_45 : decode cX9_ends 45 = .ok (.iload_n 1, 1) := by decide +kernel
theorem dX9_ends_46 : decode cX9_ends 46 = .ok (.iaload, 1) := by decide +kernel
theorem dX9_ends_47 : decode cX9_ends 47 = .ok (.goto 9, 3) := by decide +kernel
theorem dX9_ends_50 : decode cX9_ends 50 = .ok (.aload_n 0, 1) := by decide +kernel
theorem dX9_ends_51 : decode cX9_ends 51 = .ok (.getfield 23, 3) := by decide +kernel
theorem dX9_ends_54 : decode cX9_ends 54 = .ok (.iload_n 1, 1) := by decide +kernel
theorem dX9_ends_55 : decode cX9_ends 55 = .ok (.iaload, 1) := by decide +kernel
theorem dX9_ends_56 : decode cX9_ends 56 = .ok (.ireturn, 1) := by decide +kernel
theorem dX9_isAt_0 : decode cX9_isAt 0 = .ok (.aload_n 0, 1) := by decide +kernel
theorem dX9_isAt_1 : decode cX9_isAt 1 = .ok (.getfield 17, 3) := by decide +kernel
theorem dX9_isAt_4 : decode cX9_isAt 4 = .ok (.iload_n 1, 1) := by decide +kernel
theorem dX9_isAt_5 : decode cX9_isAt 5 = .ok (.iaload, 1) := by decide +kernel
theorem dX9_isAt_6 : decode cX9_isAt 6 = .ok (.iload_n 2, 1) := by decide +kernel
theorem dX9_isAt_7 : decode cX9_isAt 7 = .ok (.if_icmp .eq 13, 3) := by decide +kernel
theorem dX9_isAt_10 : decode cX9_isAt 10 = .ok (.aload_n 0, 1) := by decide +kernel
theorem dX9_isAt_11 : decode cX9_isAt 11 = .ok (.getfield 20, 3) := by decide +kernel
theorem dX9_isAt_14 : decode cX9_isAt 14 = .ok (.iload_n 1, 1) := by decide +kernel
theorem dX9_isAt_15 : decode cX9_isAt 15 = .ok (.iaload, 1) := by decide +kernel
theorem dX9_isAt_16 : decode cX9_isAt 16 = .ok (.iload_n 2, 1) := by decide +kernel
theorem dX9_isAt_17 : decode cX9_isAt 17 = .ok (.if_icmp .ne 7, 3) := by decide +kernel
theorem dX9_isAt_20 : decode cX9_isAt 20 = .ok (.iconst 1, 1) := by decide +kernel
theorem dX9_isAt_21 : decode cX9_isAt 21 = .ok (.goto 4, 3) := by decide +kernel
theorem dX9_isAt_24 : decode cX9_isAt 24 = .ok (.iconst 0, 1) := by decide +kernel
theorem dX9_isAt_25 : decode cX9_isAt 25 = .ok (.ireturn, 1) := by decide +kernel
theorem dX9_otherOf_0 : decode cX9_otherOf 0 = .ok (.aload_n 0, 1) := by decide +kernel
theorem dX9_otherOf_1 : decode cX9_otherOf 1 = .ok (.getfield 17, 3) := by decide +kernel
theorem dX9_otherOf_4 : decode cX9_otherOf 4 = .ok (.iload_n 1, 1) := by decide +kernel
theorem dX9_otherOf_5 : decode cX9_otherOf 5 = .ok (.iaload, 1) := by decide +kernel
theorem dX9_otherOf_6 : decode cX9_otherOf 6 = .ok (.aload_n 0, 1) := by decide +kernel
theorem dX9_otherOf_7 : decode cX9_otherOf 7 = .ok (.getfield 20, 3) := by decide +kernel
theorem dX9_otherOf_10 : decode cX9_otherOf 10 = .ok (.iload_n 1, 1) := by decide +kernel
theorem dX9_otherOf_11 : decode cX9_otherOf 11 = .ok (.iaload, 1) := by decide +kernel
theorem dX9_otherOf_12 : decode cX9_otherOf 12 = .ok (.iadd, 1) := by decide +kernel
theorem dX9_otherOf_13 : decode cX9_otherOf 13 = .ok (.iload_n 2, 1) := by decide +kernel
theorem dX9_otherOf_14 : decode cX9_otherOf 14 = .ok (.isub, 1) := by decide +kernel
theorem dX9_otherOf_15 : decode cX9_otherOf 15 = .ok (.ireturn, 1) := by decide +kernel
theorem dX9_leads_0 : decode cX9_leads 0 = .ok (.aload_n 0, 1) := by decide +kernel
theorem dX9_leads_1 : decode cX9_leads 1 = .ok (.getfield 23, 3) := by decide +kernel
theorem dX9_leads_4 : decode cX9_leads 4 = .ok (.iload_n 1, 1) := by decide +kernel
theorem dX9_leads_5 : decode cX9_leads 5 = .ok (.iaload, 1) := by decide +kernel
theorem dX9_leads_6 : decode cX9_leads 6 = .ok (.ifCond .eq 43, 3) := by decide +kernel
theorem dX9_leads_9 : decode cX9_leads 9 = .ok (.aload_n 0, 1) := by decide +kernel
theorem dX9_leads_10 : decode cX9_leads 10 = .ok (.getfield 23, 3) := by decide +kernel
theorem dX9_leads_13 : decode cX9_leads 13 = .ok (.iload_n 1, 1) := by decide +kernel
theorem dX9_leads_14 : decode cX9_leads 14 = .ok (.iaload, 1) := by decide +kernel
theorem dX9_leads_15 : decode cX9_leads 15 = .ok (.iconst 1, 1) := by decide +kernel
theorem dX9_leads_16 : decode cX9_leads 16 = .ok (.if_icmp .ne 13, 3) := by decide +kernel
theorem dX9_leads_19 : decode cX9_leads 19 = .ok (.aload_n 0, 1) := by decide +kernel
theorem dX9_leads_20 : decode cX9_leads 20 = .ok (.getfield 17, 3) := by decide +kernel
theorem dX9_leads_23 : decode cX9_leads 23 = .ok (.iload_n 1, 1) := by decide +kernel
theorem dX9_leads_24 : decode cX9_leads 24 = .ok (.iaload, 1) := by decide +kernel
theorem dX9_leads_25 : decode cX9_leads 25 = .ok (.iload_n 2, 1) := by decide +kernel
theorem dX9_leads_26 : decode cX9_leads 26 = .ok (.if_icmp .eq 23, 3) := by decide +kernel
theorem dX9_leads_29 : decode cX9_leads 29 = .ok (.aload_n 0, 1) := by decide +kernel
theorem dX9_leads_30 : decode cX9_leads 30 = .ok (.getfield 23, 3) := by decide +kernel
theorem dX9_leads_33 : decode cX9_leads 33 = .ok (.iload_n 1, 1) := by decide +kernel
theorem dX9_leads_34 : decode cX9_leads 34 = .ok (.iaload, 1) := by decide +kernel
theorem dX9_leads_35 : decode cX9_leads 35 = .ok (.iconst 2, 1) := by decide +kernel
theorem dX9_leads_36 : decode cX9_leads 36 = .ok (.if_icmp .ne 17, 3) := by decide +kernel
theorem dX9_leads_39 : decode cX9_leads 39 = .ok (.aload_n 0, 1) := by decide +kernel
theorem dX9_leads_40 : decode cX9_leads 40 = .ok (.getfield 20, 3) := by decide +kernel
theorem dX9_leads_43 : decode cX9_leads 43 = .ok (.iload_n 1, 1) := by decide +kernel
theorem dX9_leads_44 : decode cX9_leads 44 = .ok (.iaload, 1) := by decide +kernel
theorem dX9_leads_45 : decode cX9_leads 45 = .ok (.iload_n 2, 1) := by decide +kernel
theorem dX9_leads_46 : decode cX9_leads 46 = .ok (.if_icmp .ne 7, 3) := by decide +kernel
theorem dX9_leads_49 : decode cX9_leads 49 = .ok (.iconst 1, 1) := by decide +kernel
theorem dX9_leads_50 : decode cX9_leads 50 = .ok (.goto 4, 3) := by decide +kernel
theorem dX9_leads_53 : decode cX9_leads 53 = .ok (.iconst 0, 1) := by decide +kernel
theorem dX9_leads_54 : decode cX9_leads 54 = .ok (.ireturn, 1) := by decide +kernel
theorem dX9_degree_0 : decode cX9_degree 0 = .ok (.iconst 0, 1) := by decide +kernel
theorem dX9_degree_1 : decode cX9_degree 1 = .ok (.istore_n 3, 1) := by decide +kernel
theorem dX9_degree_2 : decode cX9_degree 2 = .ok (.iconst 0, 1) := by decide +kernel
theorem dX9_degree_3 : decode cX9_degree 3 = .ok (.istore 4, 2) := by decide +kernel
theorem dX9_degree_5 : decode cX9_degree 5 = .ok (.iload 4, 2) := by decide +kernel
theorem dX9_degree_7 : decode cX9_degree 7 = .ok (.aload_n 0, 1) := by decide +kernel
theorem dX9_degree_8 : decode cX9_degree 8 = .ok (.getfield 72, 3) := by decide +kernel
theorem dX9_degree_11 : decode cX9_degree 11 = .ok (.if_icmp .ge 68, 3) := by decide +kernel
theorem dX9_degree_14 : decode cX9_degree 14 = .ok (.aload_n 0, 1) := by decide +kernel
theorem dX9_degree_15 : decode cX9_degree 15 = .ok (.iload 4, 2) := by decide +kernel
theorem dX9_degree_17 : decode cX9_degree 17 = .ok (.iload_n 1, 1) := by decide +kernel
theorem dX9_degree_18 : decode cX9_degree 18 = .ok (.invokevirtual 97, 3) := by decide +kernel
theorem dX9_degree_21 : decode cX9_degree 21 = .ok (.ifCond .eq 36, 3) := by decide +kernel
theorem dX9_degree_24 : decode cX9_degree 24 = .ok (.iload_n 2, 1) := by decide +kernel
theorem dX9_degree_25 : decode cX9_degree 25 = .ok (.ifCond .eq 28, 3) := by decide +kernel
theorem dX9_degree_28 : decode cX9_degree 28 = .ok (.aload_n 0, 1) := by decide +kernel
theorem dX9_degree_29 : decode cX9_degree 29 = .ok (.iload 4, 2) := by decide +kernel
theorem dX9_degree_31 : decode cX9_degree 31 = .ok (.iload_n 2, 1) := by decide +kernel
theorem dX9_degree_32 : decode cX9_degree 32 = .ok (.iconst 1, 1) := by decide +kernel
theorem dX9_degree_33 : decode cX9_degree 33 = .ok (.if_icmp .ne 7, 3) := by decide +kernel
theorem dX9_degree_36 : decode cX9_degree 36 = .ok (.iload_n 1, 1) := by decide +kernel
theorem dX9_degree_37 : decode cX9_degree 37 = .ok (.goto 10, 3) := by decide +kernel
theorem dX9_degree_40 : decode cX9_degree 40 = .ok (.aload_n 0, 1) := by decide +kernel
theorem dX9_degree_41 : decode cX9_degree 41 = .ok (.iload 4, 2) := by decide +kernel
theorem dX9_degree_43 : decode cX9_degree 43 = .ok (.iload_n 1, 1) := by decide +kernel
theorem dX9_degree_44 : decode cX9_degree 44 = .ok (.invokevirtual 101, 3) := by decide +kernel
theorem dX9_degree_47 : decode cX9_degree 47 = .ok (.invokevirtual 105, 3) := by decide +kernel
theorem dX9_degree_50 : decode cX9_degree 50 = .ok (.ifCond .eq 7, 3) := by decide +kernel
theorem dX9_degree_53 : decode cX9_degree 53 = .ok (.iconst 1, 1) := by decide +kernel
theorem dX9_degree_54 : decode cX9_degree 54 = .ok (.goto 4, 3) := by decide +kernel
theorem dX9_degree_57 : decode cX9_degree 57 = .ok (.iconst 0, 1) := by decide +kernel
theorem dX9_degree_58 : decode cX9_degree 58 = .ok (.istore 5, 2) := by decide +kernel
theorem dX9_degree_60 : decode cX9_degree 60 = .ok (.iload_n 3, 1) := by decide +kernel
theorem dX9_degree_61 : decode cX9_degree 61 = .ok (.iload 5, 2) := by decide +kernel
theorem dX9_degree_63 : decode cX9_degree 63 = .ok (.ifCond .eq 7, 3) := by decide +kernel
theorem dX9_degree_66 : decode cX9_degree 66 = .ok (.iconst 1, 1) := by decide +kernel
theorem dX9_degree_67 : decode cX9_degree 67 = .ok (.goto 4, 3) := by decide +kernel
theorem dX9_degree_70 : decode cX9_degree 70 = .ok (.iconst 0, 1) := by decide +kernel
theorem dX9_degree_71 : decode cX9_degree 71 = .ok (.iadd, 1) := by decide +kernel
theorem dX9_degree_72 : decode cX9_degree 72 = .ok (.istore_n 3, 1) := by decide +kernel
theorem dX9_degree_73 : decode cX9_degree 73 = .ok (.iinc 4 1, 3) := by decide +kernel
theorem dX9_degree_76 : decode cX9_degree 76 = .ok (.goto (-71), 3) := by decide +kernel
theorem dX9_degree_79 : decode cX9_degree 79 = .ok (.iload_n 3, 1) := by decide +kernel
theorem dX9_degree_80 : decode cX9_degree 80 = .ok (.ireturn, 1) := by decide +kernel
theorem dX9_at_0 : decode cX9_at 0 = .ok (.aload_n 0, 1) := by decide +kernel
theorem dX9_at_1 : decode cX9_at 1 = .ok (.iload_n 1, 1) := by decide +kernel
theorem dX9_at_2 : decode cX9_at 2 = .ok (.invokevirtual 86, 3) := by decide +kernel
theorem dX9_at_5 : decode cX9_at 5 = .ok (.ifCond .eq 21, 3) := by decide +kernel
theorem dX9_at_8 : decode cX9_at 8 = .ok (.iload_n 2, 1) := by decide +kernel
theorem dX9_at_9 : decode cX9_at 9 = .ok (.iconst 0, 1) := by decide +kernel
theorem dX9_at_10 : decode cX9_at 10 = .ok (.iconst 2, 1) := by decide +kernel
theorem dX9_at_11 : decode cX9_at 11 = .ok (.invokestatic 68, 3) := by decide +kernel
theorem dX9_at_14 : decode cX9_at 14 = .ok (.ifCond .eq 12, 3) := by decide +kernel
theorem dX9_at_17 : decode cX9_at 17 = .ok (.aload_n 0, 1) := by decide +kernel
theorem dX9_at_18 : decode cX9_at 18 = .ok (.iload_n 1, 1) := by decide +kernel
theorem dX9_at_19 : decode cX9_at 19 = .ok (.iload_n 2, 1) := by decide +kernel
theorem dX9_at_20 : decode cX9_at 20 = .ok (.invokevirtual 108, 3) := by decide +kernel
theorem dX9_at_23 : decode cX9_at 23 = .ok (.goto 8, 3) := by decide +kernel
theorem dX9_at_26 : decode cX9_at 26 = .ok (.aload_n 0, 1) := by decide +kernel
theorem dX9_at_27 : decode cX9_at 27 = .ok (.iconst 1, 1) := by decide +kernel
theorem dX9_at_28 : decode cX9_at 28 = .ok (.invokevirtual 79, 3) := by decide +kernel
theorem dX9_at_31 : decode cX9_at 31 = .ok (.ireturn, 1) := by decide +kernel
theorem dX9_sidesFrom_0 : decode cX9_sidesFrom 0 = .ok (.aload_n 0, 1) := by decide +kernel
theorem dX9_sidesFrom_1 : decode cX9_sidesFrom 1 = .ok (.getfield 26, 3) := by decide +kernel
theorem dX9_sidesFrom_4 : decode cX9_sidesFrom 4 = .ok (.iload_n 1, 1) := by decide +kernel
theorem dX9_sidesFrom_5 : decode cX9_sidesFrom 5 = .ok (.iaload, 1) := by decide +kernel
theorem dX9_sidesFrom_6 : decode cX9_sidesFrom 6 = .ok (.iconst (-1), 1) := by decide +kernel
theorem dX9_sidesFrom_7 : decode cX9_sidesFrom 7 = .ok (.if_icmp .eq 19, 3) := by decide +kernel
theorem dX9_sidesFrom_10 : decode cX9_sidesFrom 10 = .ok (.aload_n 0, 1) := by decide +kernel
theorem dX9_sidesFrom_11 : decode cX9_sidesFrom 11 = .ok (.getfield 26, 3) := by decide +kernel
theorem dX9_sidesFrom_14 : decode cX9_sidesFrom 14 = .ok (.iload_n 1, 1) := by decide +kernel
theorem dX9_sidesFrom_15 : decode cX9_sidesFrom 15 = .ok (.iaload, 1) := by decide +kernel
theorem dX9_sidesFrom_16 : decode cX9_sidesFrom 16 = .ok (.iload_n 2, 1) := by decide +kernel
theorem dX9_sidesFrom_17 : decode cX9_sidesFrom 17 = .ok (.if_icmp .ne 7, 3) := by decide +kernel
theorem dX9_sidesFrom_20 : decode cX9_sidesFrom 20 = .ok (.iconst 1, 1) := by decide +kernel
theorem dX9_sidesFrom_21 : decode cX9_sidesFrom 21 = .ok (.goto 4, 3) := by decide +kernel
theorem dX9_sidesFrom_24 : decode cX9_sidesFrom 24 = .ok (.iconst 0, 1) := by decide +kernel
theorem dX9_sidesFrom_25 : decode cX9_sidesFrom 25 = .ok (.ireturn, 1) := by decide +kernel
theorem dX9_sidesFrom_26 : decode cX9_sidesFrom 26 = .ok (.aload_n 0, 1) := by decide +kernel
theorem dX9_sidesFrom_27 : decode cX9_sidesFrom 27 = .ok (.getfield 26, 3) := by decide +kernel
theorem dX9_sidesFrom_30 : decode cX9_sidesFrom 30 = .ok (.iload_n 1, 1) := by decide +kernel
theorem dX9_sidesFrom_31 : decode cX9_sidesFrom 31 = .ok (.iload_n 2, 1) := by decide +kernel
theorem dX9_sidesFrom_32 : decode cX9_sidesFrom 32 = .ok (.iastore, 1) := by decide +kernel
theorem dX9_sidesFrom_33 : decode cX9_sidesFrom 33 = .ok (.iconst 1, 1) := by decide +kernel
theorem dX9_sidesFrom_34 : decode cX9_sidesFrom 34 = .ok (.istore_n 3, 1) := by decide +kernel
theorem dX9_sidesFrom_35 : decode cX9_sidesFrom 35 = .ok (.iconst 0, 1) := by decide +kernel
theorem dX9_sidesFrom_36 : decode cX9_sidesFrom 36 = .ok (.istore 4, 2) := by decide +kernel
theorem dX9_sidesFrom_38 : decode cX9_sidesFrom 38 = .ok (.iload 4, 2) := by decide +kernel
theorem dX9_sidesFrom_40 : decode cX9_sidesFrom 40 = .ok (.aload_n 0, 1) := by decide +kernel
theorem dX9_sidesFrom_41 : decode cX9_sidesFrom 41 = .ok (.getfield 72, 3) := by decide +kernel
theorem dX9_sidesFrom_44 : decode cX9_sidesFrom 44 = .ok (.if_icmp .ge 46, 3) := by decide +kernel
theorem dX9_sidesFrom_47 : decode cX9_sidesFrom 47 = .ok (.iload_n 3, 1) := by decide +kernel
theorem dX9_sidesFrom_48 : decode cX9_sidesFrom 48 = .ok (.ifCond .eq 42, 3) := by decide +kernel
theorem dX9_sidesFrom_51 : decode cX9_sidesFrom 51 = .ok (.aload_n 0, 1) := by decide +kernel
theorem dX9_sidesFrom_52 : decode cX9_sidesFrom 52 = .ok (.iload 4, 2) := by decide +kernel
theorem dX9_sidesFrom_54 : decode cX9_sidesFrom 54 = .ok (.iload_n 1, 1) := by decide +kernel
theorem dX9_sidesFrom_55 : decode cX9_sidesFrom 55 = .ok (.invokevirtual 97, 3) := by decide +kernel
theorem dX9_sidesFrom_58 : decode cX9_sidesFrom 58 = .ok (.ifCond .eq 20, 3) := by decide +kernel
theorem dX9_sidesFrom_61 : decode cX9_sidesFrom 61 = .ok (.aload_n 0, 1) := by decide +kernel
theorem dX9_sidesFrom_62 : decode cX9_sidesFrom 62 = .ok (.aload_n 0, 1) := by decide +kernel
theorem dX9_sidesFrom_63 : decode cX9_sidesFrom 63 = .ok (.iload 4, 2) := by decide +kernel
theorem dX9_sidesFrom_65 : decode cX9_sidesFrom 65 = .ok (.iload_n 1, 1) := by decide +kernel
theorem dX9_sidesFrom_66 : decode cX9_sidesFrom 66 = .ok (.invokevirtual 101, 3) := by decide +kernel
theorem dX9_sidesFrom_69 : decode cX9_sidesFrom 69 = .ok (.iconst 1, 1) := by decide +kernel
theorem dX9_sidesFrom_70 : decode cX9_sidesFrom 70 = .ok (.iload_n 2, 1) := by decide +kernel
theorem dX9_sidesFrom_71 : decode cX9_sidesFrom 71 = .ok (.isub, 1) := by decide +kernel
theorem dX9_sidesFrom_72 : decode cX9_sidesFrom 72 = .ok (.invokevirtual 111, 3) := by decide +kernel
theorem dX9_sidesFrom_75 : decode cX9_sidesFrom 75 = .ok (.ifCond .eq 7, 3) := by decide +kernel
theorem dX9_sidesFrom_78 : decode cX9_sidesFrom 78 = .ok (.iconst 1, 1) := by decide +kernel
theorem dX9_sidesFrom_79 : decode cX9_sidesFrom 79 = .ok (.goto 4, 3) := by decide +kernel
theorem dX9_sidesFrom_82 : decode cX9_sidesFrom 82 = .ok (.iconst 0, 1) := by decide +kernel
theorem dX9_sidesFrom_83 : decode cX9_sidesFrom 83 = .ok (.istore_n 3, 1) := by decide +kernel
theorem dX9_sidesFrom_84 : decode cX9_sidesFrom 84 = .ok (.iinc 4 1, 3) := by decide +kernel
theorem dX9_sidesFrom_87 : decode cX9_sidesFrom 87 = .ok (.goto (-49), 3) := by decide +kernel
theorem dX9_sidesFrom_90 : decode cX9_sidesFrom 90 = .ok (.iload_n 3, 1) := by decide +kernel
theorem dX9_sidesFrom_91 : decode cX9_sidesFrom 91 = .ok (.ireturn, 1) := by decide +kernel
theorem dX9_sides_0 : decode cX9_sides 0 = .ok (.iconst 0, 1) := by decide +kernel
theorem dX9_sides_1 : decode cX9_sides 1 = .ok (.istore_n 1, 1) := by decide +kernel
theorem dX9_sides_2 : decode cX9_sides 2 = .ok (.iload_n 1, 1) := by decide +kernel
theorem dX9_sides_3 : decode cX9_sides 3 = .ok (.aload_n 0, 1) := by decide +kernel
theorem dX9_sides_4 : decode cX9_sides 4 = .ok (.getfield 13, 3) := by decide +kernel
theorem dX9_sides_7 : decode cX9_sides 7 = .ok (.if_icmp .ge 16, 3) := by decide +kernel
theorem dX9_sides_10 : decode cX9_sides 10 = .ok (.aload_n 0, 1) := by decide +kernel
theorem dX9_sides_11 : decode cX9_sides 11 = .ok (.getfield 26, 3) := by decide +kernel
theorem dX9_sides_14 : decode cX9_sides 14 = .ok (.iload_n 1, 1) := by decide +kernel
theorem dX9_sides_15 : decode cX9_sides 15 = .ok (.iconst (-1), 1) := by decide +kernel
theorem dX9_sides_16 : decode cX9_sides 16 = .ok (.iastore, 1) := by decide +kernel
theorem dX9_sides_17 : decode cX9_sides 17 = .ok (.iinc 1 1, 3) := by decide +kernel
theorem dX9_sides_20 : decode cX9_sides 20 = .ok (.goto (-18), 3) := by decide +kernel
theorem dX9_sides_23 : decode cX9_sides 23 = .ok (.iconst 0, 1) := by decide +kernel
theorem dX9_sides_24 : decode cX9_sides 24 = .ok (.istore_n 1, 1) := by decide +kernel
theorem dX9_sides_25 : decode cX9_sides 25 = .ok (.iconst 0, 1) := by decide +kernel
theorem dX9_sides_26 : decode cX9_sides 26 = .ok (.istore_n 2, 1) := by decide +kernel
theorem dX9_sides_27 : decode cX9_sides 27 = .ok (.iload_n 2, 1) := by decide +kernel
theorem dX9_sides_28 : decode cX9_sides 28 = .ok (.aload_n 0, 1) := by decide +kernel
theorem dX9_sides_29 : decode cX9_sides 29 = .ok (.getfield 13, 3) := by decide +kernel
theorem dX9_sides_32 : decode cX9_sides 32 = .ok (.if_icmp .ge 34, 3) := by decide +kernel
theorem dX9_sides_35 : decode cX9_sides 35 = .ok (.aload_n 0, 1) := by decide +kernel
theorem dX9_sides_36 : decode cX9_sides 36 = .ok (.getfield 26, 3) := by decide +kernel
theorem dX9_sides_39 : decode cX9_sides 39 = .ok (.iload_n 2, 1) := by decide +kernel
theorem dX9_sides_40 : decode cX9_sides 40 = .ok (.iaload, 1) := by decide +kernel
theorem dX9_sides_41 : decode cX9_sides 41 = .ok (.iconst (-1), 1) := by decide +kernel
theorem dX9_sides_42 : decode cX9_sides 42 = .ok (.if_icmp .ne 18, 3) := by decide +kernel
theorem dX9_sides_45 : decode cX9_sides 45 = .ok (.aload_n 0, 1) := by decide +kernel
theorem dX9_sides_46 : decode cX9_sides 46 = .ok (.iload_n 2, 1) := by decide +kernel
theorem dX9_sides_47 : decode cX9_sides 47 = .ok (.iconst 0, 1) := by decide +kernel
theorem dX9_sides_48 : decode cX9_sides 48 = .ok (.invokevirtual 111, 3) := by decide +kernel
theorem dX9_sides_51 : decode cX9_sides 51 = .ok (.ifCond .ne 9, 3) := by decide +kernel
theorem dX9_sides_54 : decode cX9_sides 54 = .ok (.aload_n 0, 1) := by decide +kernel
theorem dX9_sides_55 : decode cX9_sides 55 = .ok (.iconst 2, 1) := by decide +kernel
theorem dX9_sides_56 : decode cX9_sides 56 = .ok (.invokevirtual 79, 3) := by decide +kernel
theorem dX9_sides_59 : decode cX9_sides 59 = .ok (.ireturn, 1) := by decide +kernel
theorem dX9_sides_60 : decode cX9_sides 60 = .ok (.iinc 2 1, 3) := by decide +kernel
theorem dX9_sides_63 : decode cX9_sides 63 = .ok (.goto (-36), 3) := by decide +kernel
theorem dX9_sides_66 : decode cX9_sides 66 = .ok (.iconst 0, 1) := by decide +kernel
theorem dX9_sides_67 : decode cX9_sides 67 = .ok (.istore_n 2, 1) := by decide +kernel
theorem dX9_sides_68 : decode cX9_sides 68 = .ok (.iload_n 2, 1) := by decide +kernel
theorem dX9_sides_69 : decode cX9_sides 69 = .ok (.aload_n 0, 1) := by decide +kernel
theorem dX9_sides_70 : decode cX9_sides 70 = .ok (.getfield 13, 3) := by decide +kernel
theorem dX9_sides_73 : decode cX9_sides 73 = .ok (.if_icmp .ge 28, 3) := by decide +kernel
theorem dX9_sides_76 : decode cX9_sides 76 = .ok (.iload_n 1, 1) := by decide +kernel
theorem dX9_sides_77 : decode cX9_sides 77 = .ok (.aload_n 0, 1) := by decide +kernel
theorem dX9_sides_78 : decode cX9_sides 78 = .ok (.getfield 26, 3) := by decide +kernel
theorem dX9_sides_81 : decode cX9_sides 81 = .ok (.iload_n 2, 1) := by decide +kernel
theorem dX9_sides_82 : decode cX9_sides 82 = .ok (.iaload, 1) := by decide +kernel
theorem dX9_sides_83 : decode cX9_sides 83 = .ok (.ifCond .ne 9, 3) := by decide +kernel
theorem dX9_sides_86 : decode cX9_sides 86 = .ok (.iconst 1, 1) := by decide +kernel
theorem dX9_sides_87 : decode cX9_sides 87 = .ok (.iload_n 2, 1) := by decide +kernel
theorem dX9_sides_88 : decode cX9_sides 88 = .ok (.ishl, 1) := by decide +kernel
theorem dX9_sides_89 : decode cX9_sides 89 = .ok (.goto 4, 3) := by decide +kernel
theorem dX9_sides_92 : decode cX9_sides 92 = .ok (.iconst 0, 1) := by decide +kernel
theorem dX9_sides_93 : decode cX9_sides 93 = .ok (.ior, 1) := by decide +kernel
theorem dX9_sides_94 : decode cX9_sides 94 = .ok (.istore_n 1, 1) := by decide +kernel
theorem dX9_sides_95 : decode cX9_sides 95 = .ok (.iinc 2 1, 3) := by decide +kernel
theorem dX9_sides_98 : decode cX9_sides 98 = .ok (.goto (-30), 3) := by decide +kernel
theorem dX9_sides_101 : decode cX9_sides 101 = .ok (.iload_n 1, 1) := by decide +kernel
theorem dX9_sides_102 : decode cX9_sides 102 = .ok (.ireturn, 1) := by decide +kernel
theorem dX9_metBy_0 : decode cX9_metBy 0 = .ok (.iconst 0, 1) := by decide +kernel
theorem dX9_metBy_1 : decode cX9_metBy 1 = .ok (.istore_n 3, 1) := by decide +kernel
theorem dX9_metBy_2 : decode cX9_metBy 2 = .ok (.iconst 0, 1) := by decide +kernel
theorem dX9_metBy_3 : decode cX9_metBy 3 = .ok (.istore 4, 2) := by decide +kernel
theorem dX9_metBy_5 : decode cX9_metBy 5 = .ok (.iload 4, 2) := by decide +kernel
theorem dX9_metBy_7 : decode cX9_metBy 7 = .ok (.aload_n 0, 1) := by decide +kernel
theorem dX9_metBy_8 : decode cX9_metBy 8 = .ok (.getfield 72, 3) := by decide +kernel
theorem dX9_metBy_11 : decode cX9_metBy 11 = .ok (.if_icmp .ge 62, 3) := by decide +kernel
theorem dX9_metBy_14 : decode cX9_metBy 14 = .ok (.iload_n 1, 1) := by decide +kernel
theorem dX9_metBy_15 : decode cX9_metBy 15 = .ok (.iload 4, 2) := by decide +kernel
theorem dX9_metBy_17 : decode cX9_metBy 17 = .ok (.invokestatic 114, 3) := by decide +kernel
theorem dX9_metBy_20 : decode cX9_metBy 20 = .ok (.ifCond .eq 47, 3) := by decide +kernel
theorem dX9_metBy_23 : decode cX9_metBy 23 = .ok (.iconst 1, 1) := by decide +kernel
theorem dX9_metBy_24 : decode cX9_metBy 24 = .ok (.aload_n 0, 1) := by decide +kernel
theorem dX9_metBy_25 : decode cX9_metBy 25 = .ok (.getfield 17, 3) := by decide +kernel
theorem dX9_metBy_28 : decode cX9_metBy 28 = .ok (.iload 4, 2) := by decide +kernel
theorem dX9_metBy_30 : decode cX9_metBy 30 = .ok (.iaload, 1) := by decide +kernel
theorem dX9_metBy_31 : decode cX9_metBy 31 = .ok (.ishl, 1) := by decide +kernel
theorem dX9_metBy_32 : decode cX9_metBy 32 = .ok (.iconst 1, 1) := by decide +kernel
theorem dX9_metBy_33 : decode cX9_metBy 33 = .ok (.aload_n 0, 1) := by decide +kernel
theorem dX9_metBy_34 : decode cX9_metBy 34 = .ok (.getfield 20, 3) := by decide +kernel
theorem dX9_metBy_37 : decode cX9_metBy 37 = .ok (.iload 4, 2) := by decide +kernel
theorem dX9_metBy_39 : decode cX9_metBy 39 = .ok (.iaload, 1) := by decide +kernel
theorem dX9_metBy_40 : decode cX9_metBy 40 = .ok (.ishl, 1) := by decide +kernel
theorem dX9_metBy_41 : decode cX9_metBy 41 = .ok (.ior, 1) := by decide +kernel
theorem dX9_metBy_42 : decode cX9_metBy 42 = .ok (.istore 5, 2) := by decide +kernel
theorem dX9_metBy_44 : decode cX9_metBy 44 = .ok (.iload_n 3, 1) := by decide +kernel
theorem dX9_metBy_45 : decode cX9_metBy 45 = .ok (.iload 5, 2) := by decide +kernel
theorem dX9_metBy_47 : decode cX9_metBy 47 = .ok (.iand, 1) := by decide +kernel
theorem dX9_metBy_48 : decode cX9_metBy 48 = .ok (.ifCond .ne 12, 3) := by decide +kernel
theorem dX9_metBy_51 : decode cX9_metBy 51 = .ok (.iload 5, 2) := by decide +kernel
theorem dX9_metBy_53 : decode cX9_metBy 53 = .ok (.iload_n 2, 1) := by decide +kernel
theorem dX9_metBy_54 : decode cX9_metBy 54 = .ok (.iconst (-1), 1) := by decide +kernel
theorem dX9_metBy_55 : decode cX9_metBy 55 = .ok (.ixor, 1) := by decide +kernel
theorem dX9_metBy_56 : decode cX9_metBy 56 = .ok (.iand, 1) := by decide +kernel
theorem dX9_metBy_57 : decode cX9_metBy 57 = .ok (.ifCond .eq 5, 3) := by decide +kernel
theorem dX9_metBy_60 : decode cX9_metBy 60 = .ok (.iconst (-1), 1) := by decide +kernel
theorem dX9_metBy_61 : decode cX9_metBy 61 = .ok (.ireturn, 1) := by decide +kernel
theorem dX9_metBy_62 : decode cX9_metBy 62 = .ok (.iload_n 3, 1) := by decide +kernel
theorem dX9_metBy_63 : decode cX9_metBy 63 = .ok (.iload 5, 2) := by decide +kernel
theorem dX9_metBy_65 : decode cX9_metBy 65 = .ok (.ior, 1) := by decide +kernel
theorem dX9_metBy_66 : decode cX9_metBy 66 = .ok (.istore_n 3, 1) := by decide +kernel
theorem dX9_metBy_67 : decode cX9_metBy 67 = .ok (.iinc 4 1, 3) := by decide +kernel
theorem dX9_metBy_70 : decode cX9_metBy 70 = .ok (.goto (-65), 3) := by decide +kernel
theorem dX9_metBy_73 : decode cX9_metBy 73 = .ok (.iload_n 3, 1) := by decide +kernel
theorem dX9_metBy_74 : decode cX9_metBy 74 = .ok (.ireturn, 1) := by decide +kernel
theorem dX9_pairingOf_0 : decode cX9_pairingOf 0 = .ok (.iconst 0, 1) := by decide +kernel
theorem dX9_pairingOf_1 : decode cX9_pairingOf 1 = .ok (.istore_n 2, 1) := by decide +kernel
theorem dX9_pairingOf_2 : decode cX9_pairingOf 2 = .ok (.aload_n 0, 1) := by decide +kernel
theorem dX9_pairingOf_3 : decode cX9_pairingOf 3 = .ok (.iconst 0, 1) := by decide +kernel
theorem dX9_pairingOf_4 : decode cX9_pairingOf 4 = .ok (.putfield 117, 3) := by decide +kernel
theorem dX9_pairingOf_7 : decode cX9_pairingOf 7 = .ok (.aload_n 0, 1) := by decide +kernel
theorem dX9_pairingOf_8 : decode cX9_pairingOf 8 = .ok (.iconst 0, 1) := by decide +kernel
theorem dX9_pairingOf_9 : decode cX9_pairingOf 9 = .ok (.putfield 120, 3) := by decide +kernel
theorem dX9_pairingOf_12 : decode cX9_pairingOf 12 = .ok (.iconst 0, 1) := by decide +kernel
theorem dX9_pairingOf_13 : decode cX9_pairingOf 13 = .ok (.istore_n 3, 1) := by decide +kernel
theorem dX9_pairingOf_14 : decode cX9_pairingOf 14 = .ok (.iload_n 3, 1) := by decide +kernel
theorem dX9_pairingOf_15 : decode cX9_pairingOf 15 = .ok (.iconst 1, 1) := by decide +kernel
theorem dX9_pairingOf_16 : decode cX9_pairingOf 16 = .ok (.aload_n 0, 1) := by decide +kernel
theorem dX9_pairingOf_17 : decode cX9_pairingOf 17 = .ok (.getfield 72, 3) := by decide +kernel
theorem dX9_pairingOf_20 : decode cX9_pairingOf 20 = .ok (.ishl, 1) := by decide +kernel
theorem dX9_pairingOf_21 : decode cX9_pairingOf 21 = .ok (.if_icmp .ge 79, 3) := by decide +kernel
theorem dX9_pairingOf_24 : decode cX9_pairingOf 24 = .ok (.iload_n 3, 1) := by decide +kernel
theorem dX9_pairingOf_25 : decode cX9_pairingOf 25 = .ok (.invokestatic 123, 3) := by decide +kernel
theorem dX9_pairingOf_28 : decode cX9_pairingOf 28 = .ok (.aload_n 0, 1) := by decide +kernel
theorem dX9_pairingOf_29 : decode cX9_pairingOf 29 = .ok (.getfield 117, 3) := by decide +kernel
theorem dX9_pairingOf_32 : decode cX9_pairingOf 32 = .ok (.if_icmp .ge 7, 3) := by decide +kernel
theorem dX9_pairingOf_35 : decode cX9_pairingOf 35 = .ok (.iconst (-1), 1) := by decide +kernel
theorem dX9_pairingOf_36 : decode cX9_pairingOf 36 = .ok (.goto 9, 3) := by decide +kernel
theorem dX9_pairingOf_39 : decode cX9_pairingOf 39 = .ok (.aload_n 0, 1) := by decide +kernel
theorem dX9_pairingOf_40 : decode cX9_pairingOf 40 = .ok (.iload_n 3, 1) := by decide +kernel
theorem dX9_pairingOf_41 : decode cX9_pairingOf 41 = .ok (.iload_n 1, 1) := by decide +kernel
theorem dX9_pairingOf_42 : decode cX9_pairingOf 42 = .ok (.invokevirtual 126, 3) := by decide +kernel
theorem dX9_pairingOf_45 : decode cX9_pairingOf 45 = .ok (.istore 4, 2) := by decide +kernel
theorem dX9_pairingOf_47 : decode cX9_pairingOf 47 = .ok (.iload 4, 2) := by decide +kernel
theorem dX9_pairingOf_49 : decode cX9_pairingOf 49 = .ok (.iconst (-1), 1) := by decide +kernel
theorem dX9_pairingOf_50 : decode cX9_pairingOf 50 = .ok (.if_icmp .ne 6, 3) := by decide +kernel
theorem dX9_pairingOf_53 : decode cX9_pairingOf 53 = .ok (.goto 41, 3) := by decide +kernel
theorem dX9_pairingOf_56 : decode cX9_pairingOf 56 = .ok (.iload_n 3, 1) := by decide +kernel
theorem dX9_pairingOf_57 : decode cX9_pairingOf 57 = .ok (.invokestatic 123, 3) := by decide +kernel
theorem dX9_pairingOf_60 : decode cX9_pairingOf 60 = .ok (.aload_n 0, 1) := by decide +kernel
theorem dX9_pairingOf_61 : decode cX9_pairingOf 61 = .ok (.getfield 117, 3) := by decide +kernel
theorem dX9_pairingOf_64 : decode cX9_pairingOf 64 = .ok (.if_icmp .le 19, 3) := by decide +kernel
theorem dX9_pairingOf_67 : decode cX9_pairingOf 67 = .ok (.aload_n 0, 1) := by decide +kernel
theorem dX9_pairingOf_68 : decode cX9_pairingOf 68 = .ok (.iload_n 3, 1) := by decide +kernel
theorem dX9_pairingOf_69 : decode cX9_pairingOf 69 = .ok (.invokestatic 123, 3) := by decide +kernel
theorem dX9_pairingOf_72 : decode cX9_pairingOf 72 = .ok (.putfield 117, 3) := by decide +kernel
theorem dX9_pairingOf_75 : decode cX9_pairingOf 75 = .ok (.iload_n 3, 1) := by decide +kernel
theorem dX9_pairingOf_76 : decode cX9_pairingOf 76 = .ok (.istore_n 2, 1) := by decide +kernel
theorem dX9_pairingOf_77 : decode cX9_pairingOf 77 = .ok (.aload_n 0, 1) := by decide +kernel
theorem dX9_pairingOf_78 : decode cX9_pairingOf 78 = .ok (.iload 4, 2) := by decide +kernel
theorem dX9_pairingOf_80 : decode cX9_pairingOf 80 = .ok (.putfield 120, 3) := by decide +kernel
theorem dX9_pairingOf_83 : decode cX9_pairingOf 83 = .ok (.aload_n 0, 1) := by decide +kernel
theorem dX9_pairingOf_84 : decode cX9_pairingOf 84 = .ok (.dup, 1) := by decide +kernel
theorem dX9_pairingOf_85 : decode cX9_pairingOf 85 = .ok (.getfield 120, 3) := by decide +kernel
theorem dX9_pairingOf_88 : decode cX9_pairingOf 88 = .ok (.iload 4, 2) := by decide +kernel
theorem dX9_pairingOf_90 : decode cX9_pairingOf 90 = .ok (.iand, 1) := by decide +kernel
theorem dX9_pairingOf_91 : decode cX9_pairingOf 91 = .ok (.putfield 120, 3) := by decide +kernel
theorem dX9_pairingOf_94 : decode cX9_pairingOf 94 = .ok (.iinc 3 1, 3) := by decide +kernel
theorem dX9_pairingOf_97 : decode cX9_pairingOf 97 = .ok (.goto (-83), 3) := by decide +kernel
theorem dX9_pairingOf_100 : decode cX9_pairingOf 100 = .ok (.iload_n 2, 1) := by decide +kernel
theorem dX9_pairingOf_101 : decode cX9_pairingOf 101 = .ok (.ireturn, 1) := by decide +kernel
theorem dX9_pairing_0 : decode cX9_pairing 0 = .ok (.iload_n 1, 1) := by decide +kernel
theorem dX9_pairing_1 : decode cX9_pairing 1 = .ok (.aload_n 0, 1) := by decide +kernel
theorem dX9_pairing_2 : decode cX9_pairing 2 = .ok (.invokevirtual 129, 3) := by decide +kernel
theorem dX9_pairing_5 : decode cX9_pairing 5 = .ok (.iconst (-1), 1) := by decide +kernel
theorem dX9_pairing_6 : decode cX9_pairing 6 = .ok (.ixor, 1) := by decide +kernel
theorem dX9_pairing_7 : decode cX9_pairing 7 = .ok (.iand, 1) := by decide +kernel
theorem dX9_pairing_8 : decode cX9_pairing 8 = .ok (.ifCond .ne 12, 3) := by decide +kernel
theorem dX9_pairing_11 : decode cX9_pairing 11 = .ok (.iload_n 2, 1) := by decide +kernel
theorem dX9_pairing_12 : decode cX9_pairing 12 = .ok (.iconst 0, 1) := by decide +kernel
theorem dX9_pairing_13 : decode cX9_pairing 13 = .ok (.iconst 1, 1) := by decide +kernel
theorem dX9_pairing_14 : decode cX9_pairing 14 = .ok (.invokestatic 68, 3) := by decide +kernel
theorem dX9_pairing_17 : decode cX9_pairing 17 = .ok (.ifCond .ne 9, 3) := by decide +kernel
theorem dX9_pairing_20 : decode cX9_pairing 20 = .ok (.aload_n 0, 1) := by decide +kernel
theorem dX9_pairing_21 : decode cX9_pairing 21 = .ok (.iconst 1, 1) := by decide +kernel
theorem dX9_pairing_22 : decode cX9_pairing 22 = .ok (.invokevirtual 79, 3) := by decide +kernel
theorem dX9_pairing_25 : decode cX9_pairing 25 = .ok (.ireturn, 1) := by decide +kernel
theorem dX9_pairing_26 : decode cX9_pairing 26 = .ok (.aload_n 0, 1) := by decide +kernel
theorem dX9_pairing_27 : decode cX9_pairing 27 = .ok (.iload_n 1, 1) := by decide +kernel
theorem dX9_pairing_28 : decode cX9_pairing 28 = .ok (.invokevirtual 133, 3) := by decide +kernel
theorem dX9_pairing_31 : decode cX9_pairing 31 = .ok (.istore_n 3, 1) := by decide +kernel
theorem dX9_pairing_32 : decode cX9_pairing 32 = .ok (.iload_n 2, 1) := by decide +kernel
theorem dX9_pairing_33 : decode cX9_pairing 33 = .ok (.ifCond .ne 10, 3) := by decide +kernel
theorem dX9_pairing_36 : decode cX9_pairing 36 = .ok (.aload_n 0, 1) := by decide +kernel
theorem dX9_pairing_37 : decode cX9_pairing 37 = .ok (.getfield 117, 3) := by decide +kernel
theorem dX9_pairing_40 : decode cX9_pairing 40 = .ok (.goto 4, 3) := by decide +kernel
theorem dX9_pairing_43 : decode cX9_pairing 43 = .ok (.iload_n 3, 1) := by decide +kernel
theorem dX9_pairing_44 : decode cX9_pairing 44 = .ok (.ireturn, 1) := by decide +kernel
theorem dX9_needed_0 : decode cX9_needed 0 = .ok (.aload_n 0, 1) := by decide +kernel
theorem dX9_needed_1 : decode cX9_needed 1 = .ok (.aload_n 0, 1) := by decide +kernel
theorem dX9_needed_2 : decode cX9_needed 2 = .ok (.invokevirtual 129, 3) := by decide +kernel
theorem dX9_needed_5 : decode cX9_needed 5 = .ok (.invokevirtual 133, 3) := by decide +kernel
theorem dX9_needed_8 : decode cX9_needed 8 = .ok (.istore_n 1, 1) := by decide +kernel
theorem dX9_needed_9 : decode cX9_needed 9 = .ok (.aload_n 0, 1) := by decide +kernel
theorem dX9_needed_10 : decode cX9_needed 10 = .ok (.getfield 120, 3) := by decide +kernel
theorem dX9_needed_13 : decode cX9_needed 13 = .ok (.ireturn, 1) := by decide +kernel
theorem dX9_isKernel_0 : decode cX9_isKernel 0 = .ok (.iconst 0, 1) := by decide +kernel
theorem dX9_isKernel_1 : decode cX9_isKernel 1 = .ok (.istore_n 2, 1) := by decide +kernel
theorem dX9_isKernel_2 : decode cX9_isKernel 2 = .ok (.iconst 0, 1) := by decide +kernel
theorem dX9_isKernel_3 : decode cX9_isKernel 3 = .ok (.istore_n 3, 1) := by decide +kernel
theorem dX9_isKernel_4 : decode cX9_isKernel 4 = .ok (.iload_n 3, 1) := by decide +kernel
theorem dX9_isKernel_5 : decode cX9_isKernel 5 = .ok (.aload_n 0, 1) := by decide +kernel
theorem dX9_isKernel_6 : decode cX9_isKernel 6 = .ok (.getfield 72, 3) := by decide +kernel
theorem dX9_isKernel_9 : decode cX9_isKernel 9 = .ok (.if_icmp .ge 123, 3) := by decide +kernel
theorem dX9_isKernel_12 : decode cX9_isKernel 12 = .ok (.aload_n 0, 1) := by decide +kernel
theorem dX9_isKernel_13 : decode cX9_isKernel 13 = .ok (.getfield 17, 3) := by decide +kernel
theorem dX9_isKernel_16 : decode cX9_isKernel 16 = .ok (.iload_n 3, 1) := by decide +kernel
theorem dX9_isKernel_17 : decode cX9_isKernel 17 = .ok (.iaload, 1) := by decide +kernel
theorem dX9_isKernel_18 : decode cX9_isKernel 18 = .ok (.istore 4, 2) := by decide +kernel
theorem dX9_isKernel_20 : decode cX9_isKernel 20 = .ok (.aload_n 0, 1) := by decide +kernel
theorem dX9_isKernel_21 : decode cX9_isKernel 21 = .ok (.getfield 20, 3) := by decide +kernel
theorem dX9_isKernel_24 : decode cX9_isKernel 24 = .ok (.iload_n 3, 1) := by decide +kernel
theorem dX9_isKernel_25 : decode cX9_isKernel 25 = .ok (.iaload, 1) := by decide +kernel
theorem dX9_isKernel_26 : decode cX9_isKernel 26 = .ok (.istore 5, 2) := by decide +kernel
theorem dX9_isKernel_28 : decode cX9_isKernel 28 = .ok (.aload_n 0, 1) := by decide +kernel
theorem dX9_isKernel_29 : decode cX9_isKernel 29 = .ok (.iload_n 3, 1) := by decide +kernel
theorem dX9_isKernel_30 : decode cX9_isKernel 30 = .ok (.iload 4, 2) := by decide +kernel
theorem dX9_isKernel_32 : decode cX9_isKernel 32 = .ok (.invokevirtual 105, 3) := by decide +kernel
theorem dX9_isKernel_35 : decode cX9_isKernel 35 = .ok (.istore 6, 2) := by decide +kernel
theorem dX9_isKernel_37 : decode cX9_isKernel 37 = .ok (.aload_n 0, 1) := by decide +kernel
theorem dX9_isKernel_38 : decode cX9_isKernel 38 = .ok (.iload_n 3, 1) := by decide +kernel
theorem dX9_isKernel_39 : decode cX9_isKernel 39 = .ok (.iload 5, 2) := by decide +kernel
theorem dX9_isKernel_41 : decode cX9_isKernel 41 = .ok (.invokevirtual 105, 3) := by decide +kernel
theorem dX9_isKernel_44 : decode cX9_isKernel 44 = .ok (.istore 7, 2) := by decide +kernel
theorem dX9_isKernel_46 : decode cX9_isKernel 46 = .ok (.iload_n 1, 1) := by decide +kernel
theorem dX9_isKernel_47 : decode cX9_isKernel 47 = .ok (.iload 4, 2) := by decide +kernel
theorem dX9_isKernel_49 : decode cX9_isKernel 49 = .ok (.invokestatic 114, 3) := by decide +kernel
theorem dX9_isKernel_52 : decode cX9_isKernel 52 = .ok (.ifCond .eq 24, 3) := by decide +kernel
theorem dX9_isKernel_55 : decode cX9_isKernel 55 = .ok (.iload_n 1, 1) := by decide +kernel
theorem dX9_isKernel_56 : decode cX9_isKernel 56 = .ok (.iload 5, 2) := by decide +kernel
theorem dX9_isKernel_58 : decode cX9_isKernel 58 = .ok (.invokestatic 114, 3) := by decide +kernel
theorem dX9_isKernel_61 : decode cX9_isKernel 61 = .ok (.ifCond .eq 15, 3) := by decide +kernel
theorem dX9_isKernel_64 : decode cX9_isKernel 64 = .ok (.iload 6, 2) := by decide +kernel
theorem dX9_isKernel_66 : decode cX9_isKernel 66 = .ok (.ifCond .ne 8, 3) := by decide +kernel
theorem dX9_isKernel_69 : decode cX9_isKernel 69 = .ok (.iload 7, 2) := by decide +kernel
theorem dX9_isKernel_71 : decode cX9_isKernel 71 = .ok (.ifCond .eq 5, 3) := by decide +kernel
theorem dX9_isKernel_74 : decode cX9_isKernel 74 = .ok (.iconst 0, 1) := by decide +kernel
theorem dX9_isKernel_75 : decode cX9_isKernel 75 = .ok (.ireturn, 1) := by decide +kernel
theorem dX9_isKernel_76 : decode cX9_isKernel 76 = .ok (.iload_n 2, 1) := by decide +kernel
theorem dX9_isKernel_77 : decode cX9_isKernel 77 = .ok (.iload 6, 2) := by decide +kernel
theorem dX9_isKernel_79 : decode cX9_isKernel 79 = .ok (.ifCond .eq 19, 3) := by decide +kernel
theorem dX9_isKernel_82 : decode cX9_isKernel 82 = .ok (.iload_n 1, 1) := by decide +kernel
theorem dX9_isKernel_83 : decode cX9_isKernel 83 = .ok (.iload 5, 2) := by decide +kernel
theorem dX9_isKernel_85 : decode cX9_isKernel 85 = .ok (.invokestatic 114, 3) := by decide +kernel
theorem dX9_isKernel_88 : decode cX9_isKernel 88 = .ok (.ifCond .eq 10, 3) := by decide +kernel
theorem dX9_isKernel_91 : decode cX9_isKernel 91 = .ok (.iconst 1, 1) := by decide +kernel
theorem dX9_isKernel_92 : decode cX9_isKernel 92 = .ok (.iload 4, 2) := by decide +kernel
theorem dX9_isKernel_94 : decode cX9_isKernel 94 = .ok (.ishl, 1) := by decide +kernel
theorem dX9_isKernel_95 : decode cX9_isKernel 95 = .ok (.goto 4, 3) := by decide +kernel
theorem dX9_isKernel_98 : decode cX9_isKernel 98 = .ok (.iconst 0, 1) := by decide +kernel
theorem dX9_isKernel_99 : decode cX9_isKernel 99 = .ok (.ior, 1) := by decide +kernel
theorem dX9_isKernel_100 : decode cX9_isKernel 100 = .ok (.istore_n 2, 1) := by decide +kernel
theorem dX9_isKernel_101 : decode cX9_isKernel 101 = .ok (.iload_n 2, 1) := by decide +kernel
theorem dX9_isKernel_102 : decode cX9_isKernel 102 = .ok (.iload 7, 2) := by decide +kernel
theorem dX9_isKernel_104 : decode cX9_isKernel 104 = .ok (.ifCond .eq 19, 3) := by decide +kernel
theorem dX9_isKernel_107 : decode cX9_isKernel 107 = .ok (.iload_n 1, 1) := by decide +kernel
theorem dX9_isKernel_108 : decode cX9_isKernel 108 = .ok (.iload 4, 2) := by decide +kernel
theorem dX9_isKernel_110 : decode cX9_isKernel 110 = .ok (.invokestatic 114, 3) := by decide +kernel
theorem dX9_isKernel_113 : decode cX9_isKernel 113 = .ok (.ifCond .eq 10, 3) := by decide +kernel
theorem dX9_isKernel_116 : decode cX9_isKernel 116 = .ok (.iconst 1, 1) := by decide +kernel
theorem dX9_isKernel_117 : decode cX9_isKernel 117 = .ok (.iload 5, 2) := by decide +kernel
theorem dX9_isKernel_119 : decode cX9_isKernel 119 = .ok (.ishl, 1) := by decide +kernel
theorem dX9_isKernel_120 : decode cX9_isKernel 120 = .ok (.goto 4, 3) := by decide +kernel
theorem dX9_isKernel_123 : decode cX9_isKernel 123 = .ok (.iconst 0, 1) := by decide +kernel
theorem dX9_isKernel_124 : decode cX9_isKernel 124 = .ok (.ior, 1) := by decide +kernel
theorem dX9_isKernel_125 : decode cX9_isKernel 125 = .ok (.istore_n 2, 1) := by decide +kernel
theorem dX9_isKernel_126 : decode cX9_isKernel 126 = .ok (.iinc 3 1, 3) := by decide +kernel
theorem dX9_isKernel_129 : decode cX9_isKernel 129 = .ok (.goto (-125), 3) := by decide +kernel
theorem dX9_isKernel_132 : decode cX9_isKernel 132 = .ok (.iload_n 2, 1) := by decide +kernel
theorem dX9_isKernel_133 : decode cX9_isKernel 133 = .ok (.iload_n 1, 1) := by decide +kernel
theorem dX9_isKernel_134 : decode cX9_isKernel 134 = .ok (.ior, 1) := by decide +kernel
theorem dX9_isKernel_135 : decode cX9_isKernel 135 = .ok (.aload_n 0, 1) := by decide +kernel
theorem dX9_isKernel_136 : decode cX9_isKernel 136 = .ok (.invokevirtual 129, 3) := by decide +kernel
theorem dX9_isKernel_139 : decode cX9_isKernel 139 = .ok (.if_icmp .ne 7, 3) := by decide +kernel
theorem dX9_isKernel_142 : decode cX9_isKernel 142 = .ok (.iconst 1, 1) := by decide +kernel
theorem dX9_isKernel_143 : decode cX9_isKernel 143 = .ok (.goto 4, 3) := by decide +kernel
theorem dX9_isKernel_146 : decode cX9_isKernel 146 = .ok (.iconst 0, 1) := by decide +kernel
theorem dX9_isKernel_147 : decode cX9_isKernel 147 = .ok (.ireturn, 1) := by decide +kernel
theorem dX9_kernel_0 : decode cX9_kernel 0 = .ok (.iload_n 1, 1) := by decide +kernel
theorem dX9_kernel_1 : decode cX9_kernel 1 = .ok (.iconst (-1), 1) := by decide +kernel
theorem dX9_kernel_2 : decode cX9_kernel 2 = .ok (.if_icmp .ge 9, 3) := by decide +kernel
theorem dX9_kernel_5 : decode cX9_kernel 5 = .ok (.aload_n 0, 1) := by decide +kernel
theorem dX9_kernel_6 : decode cX9_kernel 6 = .ok (.iconst 1, 1) := by decide +kernel
theorem dX9_kernel_7 : decode cX9_kernel 7 = .ok (.invokevirtual 79, 3) := by decide +kernel
theorem dX9_kernel_10 : decode cX9_kernel 10 = .ok (.ireturn, 1) := by decide +kernel
theorem dX9_kernel_11 : decode cX9_kernel 11 = .ok (.iconst 0, 1) := by decide +kernel
theorem dX9_kernel_12 : decode cX9_kernel 12 = .ok (.istore_n 2, 1) := by decide +kernel
theorem dX9_kernel_13 : decode cX9_kernel 13 = .ok (.iconst 0, 1) := by decide +kernel
theorem dX9_kernel_14 : decode cX9_kernel 14 = .ok (.istore_n 3, 1) := by decide +kernel
theorem dX9_kernel_15 : decode cX9_kernel 15 = .ok (.iload_n 3, 1) := by decide +kernel
theorem dX9_kernel_16 : decode cX9_kernel 16 = .ok (.aload_n 0, 1) := by decide +kernel
theorem dX9_kernel_17 : decode cX9_kernel 17 = .ok (.invokevirtual 129, 3) := by decide +kernel
theorem dX9_kernel_20 : decode cX9_kernel 20 = .ok (.if_icmp .gt 27, 3) := by decide +kernel
theorem dX9_kernel_23 : decode cX9_kernel 23 = .ok (.aload_n 0, 1) := by decide +kernel
theorem dX9_kernel_24 : decode cX9_kernel 24 = .ok (.iload_n 3, 1) := by decide +kernel
theorem dX9_kernel_25 : decode cX9_kernel 25 = .ok (.invokevirtual 136, 3) := by decide +kernel
theorem dX9_kernel_28 : decode cX9_kernel 28 = .ok (.ifCond .eq 13, 3) := by decide +kernel
theorem dX9_kernel_31 : decode cX9_kernel 31 = .ok (.iload_n 2, 1) := by decide +kernel
theorem dX9_kernel_32 : decode cX9_kernel 32 = .ok (.iload_n 1, 1) := by decide +kernel
theorem dX9_kernel_33 : decode cX9_kernel 33 = .ok (.if_icmp .ne 5, 3) := by decide +kernel
theorem dX9_kernel_36 : decode cX9_kernel 36 = .ok (.iload_n 3, 1) := by decide +kernel
theorem dX9_kernel_37 : decode cX9_kernel 37 = .ok (.ireturn, 1) := by decide +kernel
theorem dX9_kernel_38 : decode cX9_kernel 38 = .ok (.iinc 2 1, 3) := by decide +kernel
theorem dX9_kernel_41 : decode cX9_kernel 41 = .ok (.iinc 3 1, 3) := by decide +kernel
theorem dX9_kernel_44 : decode cX9_kernel 44 = .ok (.goto (-29), 3) := by decide +kernel
theorem dX9_kernel_47 : decode cX9_kernel 47 = .ok (.iload_n 1, 1) := by decide +kernel
theorem dX9_kernel_48 : decode cX9_kernel 48 = .ok (.iconst (-1), 1) := by decide +kernel
theorem dX9_kernel_49 : decode cX9_kernel 49 = .ok (.if_icmp .ne 7, 3) := by decide +kernel
theorem dX9_kernel_52 : decode cX9_kernel 52 = .ok (.iload_n 2, 1) := by decide +kernel
theorem dX9_kernel_53 : decode cX9_kernel 53 = .ok (.goto 8, 3) := by decide +kernel
theorem dX9_kernel_56 : decode cX9_kernel 56 = .ok (.aload_n 0, 1) := by decide +kernel
theorem dX9_kernel_57 : decode cX9_kernel 57 = .ok (.iconst 2, 1) := by decide +kernel
theorem dX9_kernel_58 : decode cX9_kernel 58 = .ok (.invokevirtual 79, 3) := by decide +kernel
theorem dX9_kernel_61 : decode cX9_kernel 61 = .ok (.ireturn, 1) := by decide +kernel
theorem dX9_feed_0 : decode cX9_feed 0 = .ok (.iload_n 3, 1) := by decide +kernel
theorem dX9_feed_1 : decode cX9_feed 1 = .ok (.iconst 1, 1) := by decide +kernel
theorem dX9_feed_2 : decode cX9_feed 2 = .ok (.bipush 8, 2) := by decide +kernel
theorem dX9_feed_4 : decode cX9_feed 4 = .ok (.invokestatic 68, 3) := by decide +kernel
theorem dX9_feed_7 : decode cX9_feed 7 = .ok (.ifCond .ne 9, 3) := by decide +kernel
theorem dX9_feed_10 : decode cX9_feed 10 = .ok (.aload_n 0, 1) := by decide +kernel
theorem dX9_feed_11 : decode cX9_feed 11 = .ok (.iconst 1, 1) := by decide +kernel
theorem dX9_feed_12 : decode cX9_feed 12 = .ok (.invokevirtual 79, 3) := by decide +kernel
theorem dX9_feed_15 : decode cX9_feed 15 = .ok (.ireturn, 1) := by decide +kernel
theorem dX9_feed_16 : decode cX9_feed 16 = .ok (.aload_n 0, 1) := by decide +kernel
theorem dX9_feed_17 : decode cX9_feed 17 = .ok (.getfield 139, 3) := by decide +kernel
theorem dX9_feed_20 : decode cX9_feed 20 = .ok (.iload_n 3, 1) := by decide +kernel
theorem dX9_feed_21 : decode cX9_feed 21 = .ok (.iadd, 1) := by decide +kernel
theorem dX9_feed_22 : decode cX9_feed 22 = .ok (.bipush 60, 2) := by decide +kernel
theorem dX9_feed_24 : decode cX9_feed 24 = .ok (.if_icmp .le 9, 3) := by decide +kernel
theorem dX9_feed_27 : decode cX9_feed 27 = .ok (.aload_n 0, 1) := by decide +kernel
theorem dX9_feed_28 : decode cX9_feed 28 = .ok (.iconst 4, 1) := by decide +kernel
theorem dX9_feed_29 : decode cX9_feed 29 = .ok (.invokevirtual 79, 3) := by decide +kernel
theorem dX9_feed_32 : decode cX9_feed 32 = .ok (.ireturn, 1) := by decide +kernel
theorem dX9_feed_33 : decode cX9_feed 33 = .ok (.iconst 0, 1) := by decide +kernel
theorem dX9_feed_34 : decode cX9_feed 34 = .ok (.istore 4, 2) := by decide +kernel
theorem dX9_feed_36 : decode cX9_feed 36 = .ok (.iload 4, 2) := by decide +kernel
theorem dX9_feed_38 : decode cX9_feed 38 = .ok (.iload_n 3, 1) := by decide +kernel
theorem dX9_feed_39 : decode cX9_feed 39 = .ok (.if_icmp .ge 40, 3) := by decide +kernel
theorem dX9_feed_42 : decode cX9_feed 42 = .ok (.aload_n 0, 1) := by decide +kernel
theorem dX9_feed_43 : decode cX9_feed 43 = .ok (.getfield 29, 3) := by decide +kernel
theorem dX9_feed_46 : decode cX9_feed 46 = .ok (.aload_n 0, 1) := by decide +kernel
theorem dX9_feed_47 : decode cX9_feed 47 = .ok (.getfield 139, 3) := by decide +kernel
theorem dX9_feed_50 : decode cX9_feed 50 = .ok (.lload_n 1, 1) := by decide +kernel
theorem dX9_feed_51 : decode cX9_feed 51 = .ok (.bipush 8, 2) := by decide +kernel
theorem dX9_feed_53 : decode cX9_feed 53 = .ok (.iload 4, 2) := by decide +kernel
theorem dX9_feed_55 : decode cX9_feed 55 = .ok (.imul, 1) := by decide +kernel
theorem dX9_feed_56 : decode cX9_feed 56 = .ok (.lshr, 1) := by decide +kernel
theorem dX9_feed_57 : decode cX9_feed 57 = .ok (.ldc2_w 142, 3) := by decide +kernel
theorem dX9_feed_60 : decode cX9_feed 60 = .ok (.land, 1) := by decide +kernel
theorem dX9_feed_61 : decode cX9_feed 61 = .ok (.l2i, 1) := by decide +kernel
theorem dX9_feed_62 : decode cX9_feed 62 = .ok (.iastore, 1) := by decide +kernel
theorem dX9_feed_63 : decode cX9_feed 63 = .ok (.aload_n 0, 1) := by decide +kernel
theorem dX9_feed_64 : decode cX9_feed 64 = .ok (.dup, 1) := by decide +kernel
theorem dX9_feed_65 : decode cX9_feed 65 = .ok (.getfield 139, 3) := by decide +kernel
theorem dX9_feed_68 : decode cX9_feed 68 = .ok (.iconst 1, 1) := by decide +kernel
theorem dX9_feed_69 : decode cX9_feed 69 = .ok (.iadd, 1) := by decide +kernel
theorem dX9_feed_70 : decode cX9_feed 70 = .ok (.putfield 139, 3) := by decide +kernel
theorem dX9_feed_73 : decode cX9_feed 73 = .ok (.iinc 4 1, 3) := by decide +kernel
theorem dX9_feed_76 : decode cX9_feed 76 = .ok (.goto (-40), 3) := by decide +kernel
theorem dX9_feed_79 : decode cX9_feed 79 = .ok (.aload_n 0, 1) := by decide +kernel
theorem dX9_feed_80 : decode cX9_feed 80 = .ok (.getfield 139, 3) := by decide +kernel
theorem dX9_feed_83 : decode cX9_feed 83 = .ok (.ireturn, 1) := by decide +kernel
theorem dX9_here_0 : decode cX9_here 0 = .ok (.iload_n 1, 1) := by decide +kernel
theorem dX9_here_1 : decode cX9_here 1 = .ok (.aload_n 0, 1) := by decide +kernel
theorem dX9_here_2 : decode cX9_here 2 = .ok (.getfield 139, 3) := by decide +kernel
theorem dX9_here_5 : decode cX9_here 5 = .ok (.if_icmp .ge 12, 3) := by decide +kernel
theorem dX9_here_8 : decode cX9_here 8 = .ok (.aload_n 0, 1) := by decide +kernel
theorem dX9_here_9 : decode cX9_here 9 = .ok (.getfield 29, 3) := by decide +kernel
theorem dX9_here_12 : decode cX9_here 12 = .ok (.iload_n 1, 1) := by decide +kernel
theorem dX9_here_13 : decode cX9_here 13 = .ok (.iaload, 1) := by decide +kernel
theorem dX9_here_14 : decode cX9_here 14 = .ok (.goto 4, 3) := by decide +kernel
theorem dX9_here_17 : decode cX9_here 17 = .ok (.iconst (-1), 1) := by decide +kernel
theorem dX9_here_18 : decode cX9_here 18 = .ok (.ireturn, 1) := by decide +kernel
theorem dX9_faultOf_0 : decode cX9_faultOf 0 = .ok (.iconst 0, 1) := by decide +kernel
theorem dX9_faultOf_1 : decode cX9_faultOf 1 = .ok (.istore_n 1, 1) := by decide +kernel
theorem dX9_faultOf_2 : decode cX9_faultOf 2 = .ok (.iconst 0, 1) := by decide +kernel
theorem dX9_faultOf_3 : decode cX9_faultOf 3 = .ok (.istore_n 2, 1) := by decide +kernel
theorem dX9_faultOf_4 : decode cX9_faultOf 4 = .ok (.aload_n 0, 1) := by decide +kernel
theorem dX9_faultOf_5 : decode cX9_faultOf 5 = .ok (.iload_n 1, 1) := by decide +kernel
theorem dX9_faultOf_6 : decode cX9_faultOf 6 = .ok (.invokevirtual 144, 3) := by decide +kernel
theorem dX9_faultOf_9 : decode cX9_faultOf 9 = .ok (.bipush 97, 2) := by decide +kernel
theorem dX9_faultOf_11 : decode cX9_faultOf 11 = .ok (.bipush 106, 2) := by decide +kernel
theorem dX9_faultOf_13 : decode cX9_faultOf 13 = .ok (.invokestatic 68, 3) := by decide +kernel
theorem dX9_faultOf_16 : decode cX9_faultOf 16 = .ok (.ifCond .eq 9, 3) := by decide +kernel
theorem dX9_faultOf_19 : decode cX9_faultOf 19 = .ok (.iload_n 2, 1) := by decide +kernel
theorem dX9_faultOf_20 : decode cX9_faultOf 20 = .ok (.bipush 12, 2) := by decide +kernel
theorem dX9_faultOf_22 : decode cX9_faultOf 22 = .ok (.if_icmp .ne 5, 3) := by decide +kernel
theorem dX9_faultOf_25 : decode cX9_faultOf 25 = .ok (.iload_n 1, 1) := by decide +kernel
theorem dX9_faultOf_26 : decode cX9_faultOf 26 = .ok (.ireturn, 1) := by decide +kernel
theorem dX9_faultOf_27 : decode cX9_faultOf 27 = .ok (.aload_n 0, 1) := by decide +kernel
theorem dX9_faultOf_28 : decode cX9_faultOf 28 = .ok (.iload_n 1, 1) := by decide +kernel
theorem dX9_faultOf_29 : decode cX9_faultOf 29 = .ok (.iconst 1, 1) := by decide +kernel
theorem dX9_faultOf_30 : decode cX9_faultOf 30 = .ok (.iadd, 1) := by decide +kernel
theorem dX9_faultOf_31 : decode cX9_faultOf 31 = .ok (.invokevirtual 144, 3) := by decide +kernel
theorem dX9_faultOf_34 : decode cX9_faultOf 34 = .ok (.istore_n 3, 1) := by decide +kernel
theorem dX9_faultOf_35 : decode cX9_faultOf 35 = .ok (.iload_n 3, 1) := by decide +kernel
theorem dX9_faultOf_36 : decode cX9_faultOf 36 = .ok (.bipush 45, 2) := by decide +kernel
theorem dX9_faultOf_38 : decode cX9_faultOf 38 = .ok (.if_icmp .eq 19, 3) := by decide +kernel
theorem dX9_faultOf_41 : decode cX9_faultOf 41 = .ok (.iload_n 3, 1) := by decide +kernel
theorem dX9_faultOf_42 : decode cX9_faultOf 42 = .ok (.bipush 62, 2) := by decide +kernel
theorem dX9_faultOf_44 : decode cX9_faultOf 44 = .ok (.if_icmp .eq 13, 3) := by decide +kernel
theorem dX9_faultOf_47 : decode cX9_faultOf 47 = .ok (.iload_n 3, 1) := by decide +kernel
theorem dX9_faultOf_48 : decode cX9_faultOf 48 = .ok (.bipush 60, 2) := by decide +kernel
theorem dX9_faultOf_50 : decode cX9_faultOf 50 = .ok (.if_icmp .eq 7, 3) := by decide +kernel
theorem dX9_faultOf_53 : decode cX9_faultOf 53 = .ok (.iload_n 1, 1) := by decide +kernel
theorem dX9_faultOf_54 : decode cX9_faultOf 54 = .ok (.iconst 1, 1) := by decide +kernel
theorem dX9_faultOf_55 : decode cX9_faultOf 55 = .ok (.iadd, 1) := by decide +kernel
theorem dX9_faultOf_56 : decode cX9_faultOf 56 = .ok (.ireturn, 1) := by decide +kernel
theorem dX9_faultOf_57 : decode cX9_faultOf 57 = .ok (.aload_n 0, 1) := by decide +kernel
theorem dX9_faultOf_58 : decode cX9_faultOf 58 = .ok (.iload_n 1, 1) := by decide +kernel
theorem dX9_faultOf_59 : decode cX9_faultOf 59 = .ok (.iconst 2, 1) := by decide +kernel
theorem dX9_faultOf_60 : decode cX9_faultOf 60 = .ok (.iadd, 1) := by decide +kernel
theorem dX9_faultOf_61 : decode cX9_faultOf 61 = .ok (.invokevirtual 144, 3) := by decide +kernel
theorem dX9_faultOf_64 : decode cX9_faultOf 64 = .ok (.bipush 97, 2) := by decide +kernel
theorem dX9_faultOf_66 : decode cX9_faultOf 66 = .ok (.bipush 106, 2) := by decide +kernel
theorem dX9_faultOf_68 : decode cX9_faultOf 68 = .ok (.invokestatic 68, 3) := by decide +kernel
theorem dX9_faultOf_71 : decode cX9_faultOf 71 = .ok (.ifCond .eq 18, 3) := by decide +kernel
theorem dX9_faultOf_74 : decode cX9_faultOf 74 = .ok (.aload_n 0, 1) := by decide +kernel
theorem dX9_faultOf_75 : decode cX9_faultOf 75 = .ok (.iload_n 1, 1) := by decide +kernel
theorem dX9_faultOf_76 : decode cX9_faultOf 76 = .ok (.iconst 2, 1) := by decide +kernel
theorem dX9_faultOf_77 : decode cX9_faultOf 77 = .ok (.iadd, 1) := by decide +kernel
theorem dX9_faultOf_78 : decode cX9_faultOf 78 = .ok (.invokevirtual 144, 3) := by decide +kernel
theorem dX9_faultOf_81 : decode cX9_faultOf 81 = .ok (.aload_n 0, 1) := by decide +kernel
theorem dX9_faultOf_82 : decode cX9_faultOf 82 = .ok (.iload_n 1, 1) := by decide +kernel
theorem dX9_faultOf_83 : decode cX9_faultOf 83 = .ok (.invokevirtual 144, 3) := by decide +kernel
theorem dX9_faultOf_86 : decode cX9_faultOf 86 = .ok (.if_icmp .ne 7, 3) := by decide +kernel
theorem dX9_faultOf_89 : decode cX9_faultOf 89 = .ok (.iload_n 1, 1) := by decide +kernel
theorem dX9_faultOf_90 : decode cX9_faultOf 90 = .ok (.iconst 2, 1) := by decide +kernel
theorem dX9_faultOf_91 : decode cX9_faultOf 91 = .ok (.iadd, 1) := by decide +kernel
theorem dX9_faultOf_92 : decode cX9_faultOf 92 = .ok (.ireturn, 1) := by decide +kernel
theorem dX9_faultOf_93 : decode cX9_faultOf 93 = .ok (.iinc 1 3, 3) := by decide +kernel
theorem dX9_faultOf_96 : decode cX9_faultOf 96 = .ok (.iload_n 1, 1) := by decide +kernel
theorem dX9_faultOf_97 : decode cX9_faultOf 97 = .ok (.aload_n 0, 1) := by decide +kernel
theorem dX9_faultOf_98 : decode cX9_faultOf 98 = .ok (.getfield 139, 3) := by decide +kernel
theorem dX9_faultOf_101 : decode cX9_faultOf 101 = .ok (.if_icmp .ne 5, 3) := by decide +kernel
theorem dX9_faultOf_104 : decode cX9_faultOf 104 = .ok (.iconst (-1), 1) := by decide +kernel
theorem dX9_faultOf_105 : decode cX9_faultOf 105 = .ok (.ireturn, 1) := by decide +kernel
theorem dX9_faultOf_106 : decode cX9_faultOf 106 = .ok (.aload_n 0, 1) := by decide +kernel
theorem dX9_faultOf_107 : decode cX9_faultOf 107 = .ok (.iload_n 1, 1) := by decide +kernel
theorem dX9_faultOf_108 : decode cX9_faultOf 108 = .ok (.invokevirtual 144, 3) := by decide +kernel
theorem dX9_faultOf_111 : decode cX9_faultOf 111 = .ok (.bipush 44, 2) := by decide +kernel
theorem dX9_faultOf_113 : decode cX9_faultOf 113 = .ok (.if_icmp .eq 5, 3) := by decide +kernel
theorem dX9_faultOf_116 : decode cX9_faultOf 116 = .ok (.iload_n 1, 1) := by decide +kernel
theorem dX9_faultOf_117 : decode cX9_faultOf 117 = .ok (.ireturn, 1) := by decide +kernel
theorem dX9_faultOf_118 : decode cX9_faultOf 118 = .ok (.iinc 1 1, 3) := by decide +kernel
theorem dX9_faultOf_121 : decode cX9_faultOf 121 = .ok (.iinc 2 1, 3) := by decide +kernel
theorem dX9_faultOf_124 : decode cX9_faultOf 124 = .ok (.goto (-120), 3) := by decide +kernel
theorem dX9_network_0 : decode cX9_network 0 = .ok (.aload_n 0, 1) := by decide +kernel
theorem dX9_network_1 : decode cX9_network 1 = .ok (.invokevirtual 147, 3) := by decide +kernel
theorem dX9_network_4 : decode cX9_network 4 = .ok (.istore_n 1, 1) := by decide +kernel
theorem dX9_network_5 : decode cX9_network 5 = .ok (.aload_n 0, 1) := by decide +kernel
theorem dX9_network_6 : decode cX9_network 6 = .ok (.getfield 139, 3) := by decide +kernel
theorem dX9_network_9 : decode cX9_network 9 = .ok (.istore_n 2, 1) := by decide +kernel
theorem dX9_network_10 : decode cX9_network 10 = .ok (.aload_n 0, 1) := by decide +kernel
theorem dX9_network_11 : decode cX9_network 11 = .ok (.iconst 0, 1) := by decide +kernel
theorem dX9_network_12 : decode cX9_network 12 = .ok (.putfield 139, 3) := by decide +kernel
theorem dX9_network_15 : decode cX9_network 15 = .ok (.iload_n 1, 1) := by decide +kernel
theorem dX9_network_16 : decode cX9_network 16 = .ok (.iconst (-1), 1) := by decide +kernel
theorem dX9_network_17 : decode cX9_network 17 = .ok (.if_icmp .eq 8, 3) := by decide +kernel
theorem dX9_network_20 : decode cX9_network 20 = .ok (.bipush (-10), 2) := by decide +kernel
theorem dX9_network_22 : decode cX9_network 22 = .ok (.iload_n 1, 1) := by decide +kernel
theorem dX9_network_23 : decode cX9_network 23 = .ok (.isub, 1) := by decide +kernel
theorem dX9_network_24 : decode cX9_network 24 = .ok (.ireturn, 1) := by decide +kernel
theorem dX9_network_25 : decode cX9_network 25 = .ok (.iconst 0, 1) := by decide +kernel
theorem dX9_network_26 : decode cX9_network 26 = .ok (.istore_n 3, 1) := by decide +kernel
theorem dX9_network_27 : decode cX9_network 27 = .ok (.aload_n 0, 1) := by decide +kernel
theorem dX9_network_28 : decode cX9_network 28 = .ok (.iconst 0, 1) := by decide +kernel
theorem dX9_network_29 : decode cX9_network 29 = .ok (.putfield 72, 3) := by decide +kernel
theorem dX9_network_32 : decode cX9_network 32 = .ok (.iconst 0, 1) := by decide +kernel
theorem dX9_network_33 : decode cX9_network 33 = .ok (.istore 4, 2) := by decide +kernel
theorem dX9_network_35 : decode cX9_network 35 = .ok (.iload 4, 2) := by decide +kernel
theorem dX9_network_37 : decode cX9_network 37 = .ok (.iload_n 2, 1) := by decide +kernel
theorem dX9_network_38 : decode cX9_network 38 = .ok (.if_icmp .ge 106, 3) := by decide +kernel
theorem dX9_network_41 : decode cX9_network 41 = .ok (.aload_n 0, 1) := by decide +kernel
theorem dX9_network_42 : decode cX9_network 42 = .ok (.getfield 29, 3) := by decide +kernel
theorem dX9_network_45 : decode cX9_network 45 = .ok (.iload 4, 2) := by decide +kernel
theorem dX9_network_47 : decode cX9_network 47 = .ok (.iaload, 1) := by decide +kernel
theorem dX9_network_48 : decode cX9_network 48 = .ok (.bipush 97, 2) := by decide +kernel
theorem dX9_network_50 : decode cX9_network 50 = .ok (.isub, 1) := by decide +kernel
theorem dX9_network_51 : decode cX9_network 51 = .ok (.istore 5, 2) := by decide +kernel
theorem dX9_network_53 : decode cX9_network 53 = .ok (.aload_n 0, 1) := by decide +kernel
theorem dX9_network_54 : decode cX9_network 54 = .ok (.getfield 29, 3) := by decide +kernel
theorem dX9_network_57 : decode cX9_network 57 = .ok (.iload 4, 2) := by decide +kernel
theorem dX9_network_59 : decode cX9_network 59 = .ok (.iconst 2, 1) := by decide +kernel
theorem dX9_network_60 : decode cX9_network 60 = .ok (.iadd, 1) := by decide +kernel
theorem dX9_network_61 : decode cX9_network 61 = .ok (.iaload, 1) := by decide +kernel
theorem dX9_network_62 : decode cX9_network 62 = .ok (.bipush 97, 2) := by decide +kernel
theorem dX9_network_64 : decode cX9_network 64 = .ok (.isub, 1) := by decide +kernel
theorem dX9_network_65 : decode cX9_network 65 = .ok (.istore 6, 2) := by decide +kernel
theorem dX9_network_67 : decode cX9_network 67 = .ok (.iload 5, 2) := by decide +kernel
theorem dX9_network_69 : decode cX9_network 69 = .ok (.iload_n 3, 1) := by decide +kernel
theorem dX9_network_70 : decode cX9_network 70 = .ok (.if_icmp .le 8, 3) := by decide +kernel
theorem dX9_network_73 : decode cX9_network 73 = .ok (.iload 5, 2) := by decide +kernel
theorem dX9_network_75 : decode cX9_network 75 = .ok (.goto 4, 3) := by decide +kernel
theorem dX9_network_78 : decode cX9_network 78 = .ok (.iload_n 3, 1) := by decide +kernel
theorem dX9_network_79 : decode cX9_network 79 = .ok (.istore_n 3, 1) := by decide +kernel
theorem dX9_network_80 : decode cX9_network 80 = .ok (.iload 6, 2) := by decide +kernel
theorem dX9_network_82 : decode cX9_network 82 = .ok (.iload_n 3, 1) := by decide +kernel
theorem dX9_network_83 : decode cX9_network 83 = .ok (.if_icmp .le 8, 3) := by decide +kernel
theorem dX9_network_86 : decode cX9_network 86 = .ok (.iload 6, 2) := by decide +kernel
theorem dX9_network_88 : decode cX9_network 88 = .ok (.goto 4, 3) := by decide +kernel
theorem dX9_network_91 : decode cX9_network 91 = .ok (.iload_n 3, 1) := by decide +kernel
theorem dX9_network_92 : decode cX9_network 92 = .ok (.istore_n 3, 1) := by decide +kernel
theorem dX9_network_93 : decode cX9_network 93 = .ok (.aload_n 0, 1) := by decide +kernel
theorem dX9_network_94 : decode cX9_network 94 = .ok (.iload 5, 2) := by decide +kernel
theorem dX9_network_96 : decode cX9_network 96 = .ok (.iload 6, 2) := by decide +kernel
theorem dX9_network_98 : decode cX9_network 98 = .ok (.aload_n 0, 1) := by decide +kernel
theorem dX9_network_99 : decode cX9_network 99 = .ok (.getfield 29, 3) := by decide +kernel
theorem dX9_network_102 : decode cX9_network 102 = .ok (.iload 4, 2) := by decide +kernel
theorem dX9_network_104 : decode cX9_network 104 = .ok (.iconst 1, 1) := by decide +kernel
theorem dX9_network_105 : decode cX9_network 105 = .ok (.iadd, 1) := by decide +kernel
theorem dX9_network_106 : decode cX9_network 106 = .ok (.iaload, 1) := by decide +kernel
theorem dX9_network_107 : decode cX9_network 107 = .ok (.bipush 45, 2) := by decide +kernel
theorem dX9_network_109 : decode cX9_network 109 = .ok (.if_icmp .ne 7, 3) := by decide +kernel
theorem dX9_network_112 : decode cX9_network 112 = .ok (.iconst 0, 1) := by decide +kernel
theorem dX9_network_113 : decode cX9_network 113 = .ok (.goto 22, 3) := by decide +kernel
theorem dX9_network_116 : decode cX9_network 116 = .ok (.aload_n 0, 1) := by decide +kernel
theorem dX9_network_117 : decode cX9_network 117 = .ok (.getfield 29, 3) := by decide +kernel
theorem dX9_network_120 : decode cX9_network 120 = .ok (.iload 4, 2) := by decide +kernel
theorem dX9_network_122 : decode cX9_network 122 = .ok (.iconst 1, 1) := by decide +kernel
theorem dX9_network_123 : decode cX9_network 123 = .ok (.iadd, 1) := by decide +kernel
theorem dX9_network_124 : decode cX9_network 124 = .ok (.iaload, 1) := by decide +kernel
theorem dX9_network_125 : decode cX9_network 125 = .ok (.bipush 62, 2) := by decide +kernel
theorem dX9_network_127 : decode cX9_network 127 = .ok (.if_icmp .ne 7, 3) := by decide +kernel
theorem dX9_network_130 : decode cX9_network 130 = .ok (.iconst 1, 1) := by decide +kernel
theorem dX9_network_131 : decode cX9_network 131 = .ok (.goto 4, 3) := by decide +kernel
theorem dX9_network_134 : decode cX9_network 134 = .ok (.iconst 2, 1) := by decide +kernel
theorem dX9_network_135 : decode cX9_network 135 = .ok (.invokevirtual 90, 3) := by decide +kernel
theorem dX9_network_138 : decode cX9_network 138 = .ok (.iinc 4 4, 3) := by decide +kernel
theorem dX9_network_141 : decode cX9_network 141 = .ok (.goto (-106), 3) := by decide +kernel
theorem dX9_network_144 : decode cX9_network 144 = .ok (.aload_n 0, 1) := by decide +kernel
theorem dX9_network_145 : decode cX9_network 145 = .ok (.iload_n 3, 1) := by decide +kernel
theorem dX9_network_146 : decode cX9_network 146 = .ok (.iconst 1, 1) := by decide +kernel
theorem dX9_network_147 : decode cX9_network 147 = .ok (.iadd, 1) := by decide +kernel
theorem dX9_network_148 : decode cX9_network 148 = .ok (.putfield 13, 3) := by decide +kernel
theorem dX9_network_151 : decode cX9_network 151 = .ok (.aload_n 0, 1) := by decide +kernel
theorem dX9_network_152 : decode cX9_network 152 = .ok (.invokevirtual 83, 3) := by decide +kernel
theorem dX9_network_155 : decode cX9_network 155 = .ok (.aload_n 0, 1) := by decide +kernel
theorem dX9_network_156 : decode cX9_network 156 = .ok (.getfield 72, 3) := by decide +kernel
theorem dX9_network_159 : decode cX9_network 159 = .ok (.ireturn, 1) := by decide +kernel
theorem dX9_isByLines_0 : decode cX9_isByLines 0 = .ok (.aload_n 0, 1) := by decide +kernel
theorem dX9_isByLines_1 : decode cX9_isByLines 1 = .ok (.getfield 150, 3) := by decide +kernel
theorem dX9_isByLines_4 : decode cX9_isByLines 4 = .ok (.iconst 1, 1) := by decide +kernel
theorem dX9_isByLines_5 : decode cX9_isByLines 5 = .ok (.if_icmp .eq 11, 3) := by decide +kernel
theorem dX9_isByLines_8 : decode cX9_isByLines 8 = .ok (.aload_n 0, 1) := by decide +kernel
theorem dX9_isByLines_9 : decode cX9_isByLines 9 = .ok (.getfield 150, 3) := by decide +kernel
theorem dX9_isByLines_12 : decode cX9_isByLines 12 = .ok (.iconst 3, 1) := by decide +kernel
theorem dX9_isByLines_13 : decode cX9_isByLines 13 = .ok (.if_icmp .ne 7, 3) := by decide +kernel
theorem dX9_isByLines_16 : decode cX9_isByLines 16 = .ok (.iconst 1, 1) := by decide +kernel
theorem dX9_isByLines_17 : decode cX9_isByLines 17 = .ok (.goto 4, 3) := by decide +kernel
theorem dX9_isByLines_20 : decode cX9_isByLines 20 = .ok (.iconst 0, 1) := by decide +kernel
theorem dX9_isByLines_21 : decode cX9_isByLines 21 = .ok (.ireturn, 1) := by decide +kernel
theorem dX9_isByWays_0 : decode cX9_isByWays 0 = .ok (.aload_n 0, 1) := by decide +kernel
theorem dX9_isByWays_1 : decode cX9_isByWays 1 = .ok (.getfield 150, 3) := by decide +kernel
theorem dX9_isByWays_4 : decode cX9_isByWays 4 = .ok (.iconst 2, 1) := by decide +kernel
theorem dX9_isByWays_5 : decode cX9_isByWays 5 = .ok (.if_icmp .eq 11, 3) := by decide +kernel
theorem dX9_isByWays_8 : decode cX9_isByWays 8 = .ok (.aload_n 0, 1) := by decide +kernel
theorem dX9_isByWays_9 : decode cX9_isByWays 9 = .ok (.getfield 150, 3) := by decide +kernel
theorem dX9_isByWays_12 : decode cX9_isByWays 12 = .ok (.iconst 3, 1) := by decide +kernel
theorem dX9_isByWays_13 : decode cX9_isByWays 13 = .ok (.if_icmp .ne 7, 3) := by decide +kernel
theorem dX9_isByWays_16 : decode cX9_isByWays 16 = .ok (.iconst 1, 1) := by decide +kernel
theorem dX9_isByWays_17 : decode cX9_isByWays 17 = .ok (.goto 4, 3) := by decide +kernel
theorem dX9_isByWays_20 : decode cX9_isByWays 20 = .ok (.iconst 0, 1) := by decide +kernel
theorem dX9_isByWays_21 : decode cX9_isByWays 21 = .ok (.ireturn, 1) := by decide +kernel
theorem dX9_isMove_0 : decode cX9_isMove 0 = .ok (.aload_n 0, 1) := by decide +kernel
theorem dX9_isMove_1 : decode cX9_isMove 1 = .ok (.iload_n 1, 1) := by decide +kernel
theorem dX9_isMove_2 : decode cX9_isMove 2 = .ok (.iload_n 2, 1) := by decide +kernel
theorem dX9_isMove_3 : decode cX9_isMove 3 = .ok (.invokevirtual 97, 3) := by decide +kernel
theorem dX9_isMove_6 : decode cX9_isMove 6 = .ok (.ifCond .eq 19, 3) := by decide +kernel
theorem dX9_isMove_9 : decode cX9_isMove 9 = .ok (.aload_n 0, 1) := by decide +kernel
theorem dX9_isMove_10 : decode cX9_isMove 10 = .ok (.invokevirtual 153, 3) := by decide +kernel
theorem dX9_isMove_13 : decode cX9_isMove 13 = .ok (.ifCond .eq 14, 3) := by decide +kernel
theorem dX9_isMove_16 : decode cX9_isMove 16 = .ok (.aload_n 0, 1) := by decide +kernel
theorem dX9_isMove_17 : decode cX9_isMove 17 = .ok (.iload_n 1, 1) := by decide +kernel
theorem dX9_isMove_18 : decode cX9_isMove 18 = .ok (.iload_n 2, 1) := by decide +kernel
theorem dX9_isMove_19 : decode cX9_isMove 19 = .ok (.invokevirtual 105, 3) := by decide +kernel
theorem dX9_isMove_22 : decode cX9_isMove 22 = .ok (.ifCond .ne 5, 3) := by decide +kernel
theorem dX9_isMove_25 : decode cX9_isMove 25 = .ok (.iconst 0, 1) := by decide +kernel
theorem dX9_isMove_26 : decode cX9_isMove 26 = .ok (.ireturn, 1) := by decide +kernel
theorem dX9_isMove_27 : decode cX9_isMove 27 = .ok (.iload_n 3, 1) := by decide +kernel
theorem dX9_isMove_28 : decode cX9_isMove 28 = .ok (.aload_n 0, 1) := by decide +kernel
theorem dX9_isMove_29 : decode cX9_isMove 29 = .ok (.invokevirtual 157, 3) := by decide +kernel
theorem dX9_isMove_32 : decode cX9_isMove 32 = .ok (.ifCond .eq 7, 3) := by decide +kernel
theorem dX9_isMove_35 : decode cX9_isMove 35 = .ok (.iload_n 1, 1) := by decide +kernel
theorem dX9_isMove_36 : decode cX9_isMove 36 = .ok (.goto 9, 3) := by decide +kernel
theorem dX9_isMove_39 : decode cX9_isMove 39 = .ok (.aload_n 0, 1) := by decide +kernel
theorem dX9_isMove_40 : decode cX9_isMove 40 = .ok (.iload_n 1, 1) := by decide +kernel
theorem dX9_isMove_41 : decode cX9_isMove 41 = .ok (.iload_n 2, 1) := by decide +kernel
theorem dX9_isMove_42 : decode cX9_isMove 42 = .ok (.invokevirtual 101, 3) := by decide +kernel
theorem dX9_isMove_45 : decode cX9_isMove 45 = .ok (.invokestatic 114, 3) := by decide +kernel
theorem dX9_isMove_48 : decode cX9_isMove 48 = .ok (.ifCond .ne 7, 3) := by decide +kernel
theorem dX9_isMove_51 : decode cX9_isMove 51 = .ok (.iconst 1, 1) := by decide +kernel
theorem dX9_isMove_52 : decode cX9_isMove 52 = .ok (.goto 4, 3) := by decide +kernel
theorem dX9_isMove_55 : decode cX9_isMove 55 = .ok (.iconst 0, 1) := by decide +kernel
theorem dX9_isMove_56 : decode cX9_isMove 56 = .ok (.ireturn, 1) := by decide +kernel
theorem dX9_setBehind_0 : decode cX9_setBehind 0 = .ok (.iload_n 3, 1) := by decide +kernel
theorem dX9_setBehind_1 : decode cX9_setBehind 1 = .ok (.iconst 1, 1) := by decide +kernel
theorem dX9_setBehind_2 : decode cX9_setBehind 2 = .ok (.aload_n 0, 1) := by decide +kernel
theorem dX9_setBehind_3 : decode cX9_setBehind 3 = .ok (.invokevirtual 157, 3) := by decide +kernel
theorem dX9_setBehind_6 : decode cX9_setBehind 6 = .ok (.ifCond .eq 7, 3) := by decide +kernel
theorem dX9_setBehind_9 : decode cX9_setBehind 9 = .ok (.iload_n 1, 1) := by decide +kernel
theorem dX9_setBehind_10 : decode cX9_setBehind 10 = .ok (.goto 9, 3) := by decide +kernel
theorem dX9_setBehind_13 : decode cX9_setBehind 13 = .ok (.aload_n 0, 1) := by decide +kernel
theorem dX9_setBehind_14 : decode cX9_setBehind 14 = .ok (.iload_n 1, 1) := by decide +kernel
theorem dX9_setBehind_15 : decode cX9_setBehind 15 = .ok (.iload_n 2, 1) := by decide +kernel
theorem dX9_setBehind_16 : decode cX9_setBehind 16 = .ok (.invokevirtual 101, 3) := by decide +kernel
theorem dX9_setBehind_19 : decode cX9_setBehind 19 = .ok (.ishl, 1) := by decide +kernel
theorem dX9_setBehind_20 : decode cX9_setBehind 20 = .ok (.ior, 1) := by decide +kernel
theorem dX9_setBehind_21 : decode cX9_setBehind 21 = .ok (.ireturn, 1) := by decide +kernel
theorem dX9_movesAt_0 : decode cX9_movesAt 0 = .ok (.iconst 0, 1) := by decide +kernel
theorem dX9_movesAt_1 : decode cX9_movesAt 1 = .ok (.istore_n 3, 1) := by decide +kernel
theorem dX9_movesAt_2 : decode cX9_movesAt 2 = .ok (.iconst 0, 1) := by decide +kernel
theorem dX9_movesAt_3 : decode cX9_movesAt 3 = .ok (.istore 4, 2) := by decide +kernel
theorem dX9_movesAt_5 : decode cX9_movesAt 5 = .ok (.iload 4, 2) := by decide +kernel
theorem dX9_movesAt_7 : decode cX9_movesAt 7 = .ok (.aload_n 0, 1) := by decide +kernel
theorem dX9_movesAt_8 : decode cX9_movesAt 8 = .ok (.getfield 72, 3) := by decide +kernel
theorem dX9_movesAt_11 : decode cX9_movesAt 11 = .ok (.if_icmp .ge 31, 3) := by decide +kernel
theorem dX9_movesAt_14 : decode cX9_movesAt 14 = .ok (.iload_n 3, 1) := by decide +kernel
theorem dX9_movesAt_15 : decode cX9_movesAt 15 = .ok (.aload_n 0, 1) := by decide +kernel
theorem dX9_movesAt_16 : decode cX9_movesAt 16 = .ok (.iload 4, 2) := by decide +kernel
theorem dX9_movesAt_18 : decode cX9_movesAt 18 = .ok (.iload_n 1, 1) := by decide +kernel
theorem dX9_movesAt_19 : decode cX9_movesAt 19 = .ok (.iload_n 2, 1) := by decide +kernel
theorem dX9_movesAt_20 : decode cX9_movesAt 20 = .ok (.invokevirtual 160, 3) := by decide +kernel
theorem dX9_movesAt_23 : decode cX9_movesAt 23 = .ok (.ifCond .eq 10, 3) := by decide +kernel
theorem dX9_movesAt_26 : decode cX9_movesAt 26 = .ok (.iconst 1, 1) := by decide +kernel
theorem dX9_movesAt_27 : decode cX9_movesAt 27 = .ok (.iload 4, 2) := by decide +kernel
theorem dX9_movesAt_29 : decode cX9_movesAt 29 = .ok (.ishl, 1) := by decide +kernel
theorem dX9_movesAt_30 : decode cX9_movesAt 30 = .ok (.goto 4, 3) := by decide +kernel
theorem dX9_movesAt_33 : decode cX9_movesAt 33 = .ok (.iconst 0, 1) := by decide +kernel
theorem dX9_movesAt_34 : decode cX9_movesAt 34 = .ok (.ior, 1) := by decide +kernel
theorem dX9_movesAt_35 : decode cX9_movesAt 35 = .ok (.istore_n 3, 1) := by decide +kernel
theorem dX9_movesAt_36 : decode cX9_movesAt 36 = .ok (.iinc 4 1, 3) := by decide +kernel
theorem dX9_movesAt_39 : decode cX9_movesAt 39 = .ok (.goto (-34), 3) := by decide +kernel
theorem dX9_movesAt_42 : decode cX9_movesAt 42 = .ok (.iload_n 3, 1) := by decide +kernel
theorem dX9_movesAt_43 : decode cX9_movesAt 43 = .ok (.ireturn, 1) := by decide +kernel
theorem dX9_tables_0 : decode cX9_tables 0 = .ok (.aload_n 0, 1) := by decide +kernel
theorem dX9_tables_1 : decode cX9_tables 1 = .ok (.getfield 45, 3) := by decide +kernel
theorem dX9_tables_4 : decode cX9_tables 4 = .ok (.aload_n 0, 1) := by decide +kernel
theorem dX9_tables_5 : decode cX9_tables 5 = .ok (.getfield 150, 3) := by decide +kernel
theorem dX9_tables_8 : decode cX9_tables 8 = .ok (.if_icmp .ne 4, 3) := by decide +kernel
theorem dX9_tables_11 : decode cX9_tables 11 = .ok (.return_, 1) := by decide +kernel
theorem dX9_tables_12 : decode cX9_tables 12 = .ok (.aload_n 0, 1) := by decide +kernel
theorem dX9_tables_13 : decode cX9_tables 13 = .ok (.aload_n 0, 1) := by decide +kernel
theorem dX9_tables_14 : decode cX9_tables 14 = .ok (.getfield 150, 3) := by decide +kernel
theorem dX9_tables_17 : decode cX9_tables 17 = .ok (.putfield 45, 3) := by decide +kernel
theorem dX9_tables_20 : decode cX9_tables 20 = .ok (.iconst 0, 1) := by decide +kernel
theorem dX9_tables_21 : decode cX9_tables 21 = .ok (.istore_n 1, 1) := by decide +kernel
theorem dX9_tables_22 : decode cX9_tables 22 = .ok (.iload_n 1, 1) := by decide +kernel
theorem dX9_tables_23 : decode cX9_tables 23 = .ok (.ldc 38, 2) := by decide +kernel
theorem dX9_tables_25 : decode cX9_tables 25 = .ok (.if_icmp .ge 23, 3) := by decide +kernel
theorem dX9_tables_28 : decode cX9_tables 28 = .ok (.aload_n 0, 1) := by decide +kernel
theorem dX9_tables_29 : decode cX9_tables 29 = .ok (.getfield 39, 3) := by decide +kernel
theorem dX9_tables_32 : decode cX9_tables 32 = .ok (.iload_n 1, 1) := by decide +kernel
theorem dX9_tables_33 : decode cX9_tables 33 = .ok (.iconst 0, 1) := by decide +kernel
theorem dX9_tables_34 : decode cX9_tables 34 = .ok (.iastore, 1) := by decide +kernel
theorem dX9_tables_35 : decode cX9_tables 35 = .ok (.aload_n 0, 1) := by decide +kernel
theorem dX9_tables_36 : decode cX9_tables 36 = .ok (.getfield 42, 3) := by decide +kernel
theorem dX9_tables_39 : decode cX9_tables 39 = .ok (.iload_n 1, 1) := by decide +kernel
theorem dX9_tables_40 : decode cX9_tables 40 = .ok (.iconst 0, 1) := by decide +kernel
theorem dX9_tables_41 : decode cX9_tables 41 = .ok (.iastore, 1) := by decide +kernel
theorem dX9_tables_42 : decode cX9_tables 42 = .ok (.iinc 1 1, 3) := by decide +kernel
theorem dX9_tables_45 : decode cX9_tables 45 = .ok (.goto (-23), 3) := by decide +kernel
theorem dX9_tables_48 : decode cX9_tables 48 = .ok (.return_, 1) := by decide +kernel
theorem dX9_worthAt_0 : decode cX9_worthAt 0 = .ok (.sipush 4096, 3) := by decide +kernel
theorem dX9_worthAt_3 : decode cX9_worthAt 3 = .ok (.iload_n 1, 1) := by decide +kernel
theorem dX9_worthAt_4 : decode cX9_worthAt 4 = .ok (.imul, 1) := by decide +kernel
theorem dX9_worthAt_5 : decode cX9_worthAt 5 = .ok (.iload_n 2, 1) := by decide +kernel
theorem dX9_worthAt_6 : decode cX9_worthAt 6 = .ok (.iadd, 1) := by decide +kernel
theorem dX9_worthAt_7 : decode cX9_worthAt 7 = .ok (.istore_n 3, 1) := by decide +kernel
theorem dX9_worthAt_8 : decode cX9_worthAt 8 = .ok (.aload_n 0, 1) := by decide +kernel
theorem dX9_worthAt_9 : decode cX9_worthAt 9 = .ok (.getfield 39, 3) := by decide +kernel
theorem dX9_worthAt_12 : decode cX9_worthAt 12 = .ok (.iload_n 3, 1) := by decide +kernel
theorem dX9_worthAt_13 : decode cX9_worthAt 13 = .ok (.iaload, 1) := by decide +kernel
theorem dX9_worthAt_14 : decode cX9_worthAt 14 = .ok (.ifCond .eq 10, 3) := by decide +kernel
theorem dX9_worthAt_17 : decode cX9_worthAt 17 = .ok (.aload_n 0, 1) := by decide +kernel
theorem dX9_worthAt_18 : decode cX9_worthAt 18 = .ok (.getfield 39, 3) := by decide +kernel
theorem dX9_worthAt_21 : decode cX9_worthAt 21 = .ok (.iload_n 3, 1) := by decide +kernel
theorem dX9_worthAt_22 : decode cX9_worthAt 22 = .ok (.iaload, 1) := by decide +kernel
theorem dX9_worthAt_23 : decode cX9_worthAt 23 = .ok (.ireturn, 1) := by decide +kernel
theorem dX9_worthAt_24 : decode cX9_worthAt 24 = .ok (.iconst (-1), 1) := by decide +kernel
theorem dX9_worthAt_25 : decode cX9_worthAt 25 = .ok (.istore 4, 2) := by decide +kernel
theorem dX9_worthAt_27 : decode cX9_worthAt 27 = .ok (.iconst (-1), 1) := by decide +kernel
theorem dX9_worthAt_28 : decode cX9_worthAt 28 = .ok (.istore 5, 2) := by decide +kernel
theorem dX9_worthAt_30 : decode cX9_worthAt 30 = .ok (.iconst 0, 1) := by decide +kernel
theorem dX9_worthAt_31 : decode cX9_worthAt 31 = .ok (.istore 6, 2) := by decide +kernel
theorem dX9_worthAt_33 : decode cX9_worthAt 33 = .ok (.iload 6, 2) := by decide +kernel
theorem dX9_worthAt_35 : decode cX9_worthAt 35 = .ok (.aload_n 0, 1) := by decide +kernel
theorem dX9_worthAt_36 : decode cX9_worthAt 36 = .ok (.getfield 72, 3) := by decide +kernel
theorem dX9_worthAt_39 : decode cX9_worthAt 39 = .ok (.if_icmp .ge 97, 3) := by decide +kernel
theorem dX9_worthAt_42 : decode cX9_worthAt 42 = .ok (.aload_n 0, 1) := by decide +kernel
theorem dX9_worthAt_43 : decode cX9_worthAt 43 = .ok (.iload 6, 2) := by decide +kernel
theorem dX9_worthAt_45 : decode cX9_worthAt 45 = .ok (.iload_n 1, 1) := by decide +kernel
theorem dX9_worthAt_46 : decode cX9_worthAt 46 = .ok (.iload_n 2, 1) := by decide +kernel
theorem dX9_worthAt_47 : decode cX9_worthAt 47 = .ok (.invokevirtual 160, 3) := by decide +kernel
theorem dX9_worthAt_50 : decode cX9_worthAt 50 = .ok (.ifCond .ne 6, 3) := by decide +kernel
theorem dX9_worthAt_53 : decode cX9_worthAt 53 = .ok (.goto 77, 3) := by decide +kernel
theorem dX9_worthAt_56 : decode cX9_worthAt 56 = .ok (.aload_n 0, 1) := by decide +kernel
theorem dX9_worthAt_57 : decode cX9_worthAt 57 = .ok (.aload_n 0, 1) := by decide +kernel
theorem dX9_worthAt_58 : decode cX9_worthAt 58 = .ok (.iload 6, 2) := by decide +kernel
theorem dX9_worthAt_60 : decode cX9_worthAt 60 = .ok (.iload_n 1, 1) := by decide +kernel
theorem dX9_worthAt_61 : decode cX9_worthAt 61 = .ok (.invokevirtual 101, 3) := by decide +kernel
theorem dX9_worthAt_64 : decode cX9_worthAt 64 = .ok (.aload_n 0, 1) := by decide +kernel
theorem dX9_worthAt_65 : decode cX9_worthAt 65 = .ok (.iload 6, 2) := by decide +kernel
theorem dX9_worthAt_67 : decode cX9_worthAt 67 = .ok (.iload_n 1, 1) := by decide +kernel
theorem dX9_worthAt_68 : decode cX9_worthAt 68 = .ok (.iload_n 2, 1) := by decide +kernel
theorem dX9_worthAt_69 : decode cX9_worthAt 69 = .ok (.invokevirtual 163, 3) := by decide +kernel
theorem dX9_worthAt_72 : decode cX9_worthAt 72 = .ok (.invokevirtual 167, 3) := by decide +kernel
theorem dX9_worthAt_75 : decode cX9_worthAt 75 = .ok (.iconst 1, 1) := by decide +kernel
theorem dX9_worthAt_76 : decode cX9_worthAt 76 = .ok (.isub, 1) := by decide +kernel
theorem dX9_worthAt_77 : decode cX9_worthAt 77 = .ok (.istore 7, 2) := by decide +kernel
theorem dX9_worthAt_79 : decode cX9_worthAt 79 = .ok (.iload 7, 2) := by decide +kernel
theorem dX9_worthAt_81 : decode cX9_worthAt 81 = .ok (.iconst 1, 1) := by decide +kernel
theorem dX9_worthAt_82 : decode cX9_worthAt 82 = .ok (.ishr, 1) := by decide +kernel
theorem dX9_worthAt_83 : decode cX9_worthAt 83 = .ok (.istore 8, 2) := by decide +kernel
theorem dX9_worthAt_85 : decode cX9_worthAt 85 = .ok (.iload 8, 2) := by decide +kernel
theorem dX9_worthAt_87 : decode cX9_worthAt 87 = .ok (.iload 5, 2) := by decide +kernel
theorem dX9_worthAt_89 : decode cX9_worthAt 89 = .ok (.if_icmp .le 8, 3) := by decide +kernel
theorem dX9_worthAt_92 : decode cX9_worthAt 92 = .ok (.iload 8, 2) := by decide +kernel
theorem dX9_worthAt_94 : decode cX9_worthAt 94 = .ok (.goto 5, 3) := by decide +kernel
theorem dX9_worthAt_97 : decode cX9_worthAt 97 = .ok (.iload 5, 2) := by decide +kernel
theorem dX9_worthAt_99 : decode cX9_worthAt 99 = .ok (.istore 5, 2) := by decide +kernel
theorem dX9_worthAt_101 : decode cX9_worthAt 101 = .ok (.iload 7, 2) := by decide +kernel
theorem dX9_worthAt_103 : decode cX9_worthAt 103 = .ok (.iconst 1, 1) := by decide +kernel
theorem dX9_worthAt_104 : decode cX9_worthAt 104 = .ok (.iand, 1) := by decide +kernel
theorem dX9_worthAt_105 : decode cX9_worthAt 105 = .ok (.ifCond .ne 21, 3) := by decide +kernel
theorem dX9_worthAt_108 : decode cX9_worthAt 108 = .ok (.iload 4, 2) := by decide +kernel
theorem dX9_worthAt_110 : decode cX9_worthAt 110 = .ok (.iconst (-1), 1) := by decide +kernel
theorem dX9_worthAt_111 : decode cX9_worthAt 111 = .ok (.if_icmp .eq 10, 3) := by decide +kernel
theorem dX9_worthAt_114 : decode cX9_worthAt 114 = .ok (.iload 8, 2) := by decide +kernel
theorem dX9_worthAt_116 : decode cX9_worthAt 116 = .ok (.iload 4, 2) := by decide +kernel
theorem dX9_worthAt_118 : decode cX9_worthAt 118 = .ok (.if_icmp .ge 8, 3) := by decide +kernel
theorem dX9_worthAt_121 : decode cX9_worthAt 121 = .ok (.iload 8, 2) := by decide +kernel
theorem dX9_worthAt_123 : decode cX9_worthAt 123 = .ok (.goto 5, 3) := by decide +kernel
theorem dX9_worthAt_126 : decode cX9_worthAt 126 = .ok (.iload 4, 2) := by decide +kernel
theorem dX9_worthAt_128 : decode cX9_worthAt 128 = .ok (.istore 4, 2) := by decide +kernel
theorem dX9_worthAt_130 : decode cX9_worthAt 130 = .ok (.iinc 6 1, 3) := by decide +kernel
theorem dX9_worthAt_133 : decode cX9_worthAt 133 = .ok (.goto (-100), 3) := by decide +kernel
theorem dX9_worthAt_136 : decode cX9_worthAt 136 = .ok (.iload 5, 2) := by decide +kernel
theorem dX9_worthAt_138 : decode cX9_worthAt 138 = .ok (.iconst (-1), 1) := by decide +kernel
theorem dX9_worthAt_139 : decode cX9_worthAt 139 = .ok (.if_icmp .ne 19, 3) := by decide +kernel
theorem dX9_worthAt_142 : decode cX9_worthAt 142 = .ok (.aload_n 0, 1) := by decide +kernel
theorem dX9_worthAt_143 : decode cX9_worthAt 143 = .ok (.getfield 150, 3) := by decide +kernel
theorem dX9_worthAt_146 : decode cX9_worthAt 146 = .ok (.iconst 4, 1) := by decide +kernel
theorem dX9_worthAt_147 : decode cX9_worthAt 147 = .ok (.if_icmp .ne 7, 3) := by decide +kernel
theorem dX9_worthAt_150 : decode cX9_worthAt 150 = .ok (.iconst 1, 1) := by decide +kernel
theorem dX9_worthAt_151 : decode cX9_worthAt 151 = .ok (.goto 18, 3) := by decide +kernel
theorem dX9_worthAt_154 : decode cX9_worthAt 154 = .ok (.iconst 0, 1) := by decide +kernel
theorem dX9_worthAt_155 : decode cX9_worthAt 155 = .ok (.goto 14, 3) := by decide +kernel
theorem dX9_worthAt_158 : decode cX9_worthAt 158 = .ok (.iload 4, 2) := by decide +kernel
theorem dX9_worthAt_160 : decode cX9_worthAt 160 = .ok (.iconst (-1), 1) := by decide +kernel
theorem dX9_worthAt_161 : decode cX9_worthAt 161 = .ok (.if_icmp .eq 7, 3) := by decide +kernel
theorem dX9_worthAt_164 : decode cX9_worthAt 164 = .ok (.iconst 1, 1) := by decide +kernel
theorem dX9_worthAt_165 : decode cX9_worthAt 165 = .ok (.goto 4, 3) := by decide +kernel
theorem dX9_worthAt_168 : decode cX9_worthAt 168 = .ok (.iconst 0, 1) := by decide +kernel
theorem dX9_worthAt_169 : decode cX9_worthAt 169 = .ok (.istore 6, 2) := by decide +kernel
theorem dX9_worthAt_171 : decode cX9_worthAt 171 = .ok (.iload 5, 2) := by decide +kernel
theorem dX9_worthAt_173 : decode cX9_worthAt 173 = .ok (.iconst (-1), 1) := by decide +kernel
theorem dX9_worthAt_174 : decode cX9_worthAt 174 = .ok (.if_icmp .ne 7, 3) := by decide +kernel
theorem dX9_worthAt_177 : decode cX9_worthAt 177 = .ok (.iconst 0, 1) := by decide +kernel
theorem dX9_worthAt_178 : decode cX9_worthAt 178 = .ok (.goto 17, 3) := by decide +kernel
theorem dX9_worthAt_181 : decode cX9_worthAt 181 = .ok (.iconst 1, 1) := by decide +kernel
theorem dX9_worthAt_182 : decode cX9_worthAt 182 = .ok (.iload 6, 2) := by decide +kernel
theorem dX9_worthAt_184 : decode cX9_worthAt 184 = .ok (.ifCond .eq 8, 3) := by decide +kernel
theorem dX9_worthAt_187 : decode cX9_worthAt 187 = .ok (.iload 4, 2) := by decide +kernel
theorem dX9_worthAt_189 : decode cX9_worthAt 189 = .ok (.goto 5, 3) := by decide +kernel
theorem dX9_worthAt_192 : decode cX9_worthAt 192 = .ok (.iload 5, 2) := by decide +kernel
theorem dX9_worthAt_194 : decode cX9_worthAt 194 = .ok (.iadd, 1) := by decide +kernel
theorem dX9_worthAt_195 : decode cX9_worthAt 195 = .ok (.istore 7, 2) := by decide +kernel
theorem dX9_worthAt_197 : decode cX9_worthAt 197 = .ok (.aload_n 0, 1) := by decide +kernel
theorem dX9_worthAt_198 : decode cX9_worthAt 198 = .ok (.getfield 39, 3) := by decide +kernel
theorem dX9_worthAt_201 : decode cX9_worthAt 201 = .ok (.iload_n 3, 1) := by decide +kernel
theorem dX9_worthAt_202 : decode cX9_worthAt 202 = .ok (.iconst 1, 1) := by decide +kernel
theorem dX9_worthAt_203 : decode cX9_worthAt 203 = .ok (.iconst 2, 1) := by decide +kernel
theorem dX9_worthAt_204 : decode cX9_worthAt 204 = .ok (.iload 7, 2) := by decide +kernel
theorem dX9_worthAt_206 : decode cX9_worthAt 206 = .ok (.imul, 1) := by decide +kernel
theorem dX9_worthAt_207 : decode cX9_worthAt 207 = .ok (.iadd, 1) := by decide +kernel
theorem dX9_worthAt_208 : decode cX9_worthAt 208 = .ok (.iload 6, 2) := by decide +kernel
theorem dX9_worthAt_210 : decode cX9_worthAt 210 = .ok (.ifCond .eq 7, 3) := by decide +kernel
theorem dX9_worthAt_213 : decode cX9_worthAt 213 = .ok (.iconst 1, 1) := by decide +kernel
theorem dX9_worthAt_214 : decode cX9_worthAt 214 = .ok (.goto 4, 3) := by decide +kernel
theorem dX9_worthAt_217 : decode cX9_worthAt 217 = .ok (.iconst 0, 1) := by decide +kernel
theorem dX9_worthAt_218 : decode cX9_worthAt 218 = .ok (.iadd, 1) := by decide +kernel
theorem dX9_worthAt_219 : decode cX9_worthAt 219 = .ok (.iastore, 1) := by decide +kernel
theorem dX9_worthAt_220 : decode cX9_worthAt 220 = .ok (.aload_n 0, 1) := by decide +kernel
theorem dX9_worthAt_221 : decode cX9_worthAt 221 = .ok (.getfield 39, 3) := by decide +kernel
theorem dX9_worthAt_224 : decode cX9_worthAt 224 = .ok (.iload_n 3, 1) := by decide +kernel
theorem dX9_worthAt_225 : decode cX9_worthAt 225 = .ok (.iaload, 1) := by decide +kernel
theorem dX9_worthAt_226 : decode cX9_worthAt 226 = .ok (.ireturn, 1) := by decide +kernel
theorem dX9_winsAt_0 : decode cX9_winsAt 0 = .ok (.aload_n 0, 1) := by decide +kernel
theorem dX9_winsAt_1 : decode cX9_winsAt 1 = .ok (.invokevirtual 170, 3) := by decide +kernel
theorem dX9_winsAt_4 : decode cX9_winsAt 4 = .ok (.aload_n 0, 1) := by decide +kernel
theorem dX9_winsAt_5 : decode cX9_winsAt 5 = .ok (.iload_n 1, 1) := by decide +kernel
theorem dX9_winsAt_6 : decode cX9_winsAt 6 = .ok (.iload_n 2, 1) := by decide +kernel
theorem dX9_winsAt_7 : decode cX9_winsAt 7 = .ok (.invokevirtual 167, 3) := by decide +kernel
theorem dX9_winsAt_10 : decode cX9_winsAt 10 = .ok (.iconst 1, 1) := by decide +kernel
theorem dX9_winsAt_11 : decode cX9_winsAt 11 = .ok (.isub, 1) := by decide +kernel
theorem dX9_winsAt_12 : decode cX9_winsAt 12 = .ok (.iconst 1, 1) := by decide +kernel
theorem dX9_winsAt_13 : decode cX9_winsAt 13 = .ok (.iand, 1) := by decide +kernel
theorem dX9_winsAt_14 : decode cX9_winsAt 14 = .ok (.iconst 1, 1) := by decide +kernel
theorem dX9_winsAt_15 : decode cX9_winsAt 15 = .ok (.if_icmp .ne 7, 3) := by decide +kernel
theorem dX9_winsAt_18 : decode cX9_winsAt 18 = .ok (.iconst 1, 1) := by decide +kernel
theorem dX9_winsAt_19 : decode cX9_winsAt 19 = .ok (.goto 4, 3) := by decide +kernel
theorem dX9_winsAt_22 : decode cX9_winsAt 22 = .ok (.iconst 0, 1) := by decide +kernel
theorem dX9_winsAt_23 : decode cX9_winsAt 23 = .ok (.ireturn, 1) := by decide +kernel
theorem dX9_longAt_0 : decode cX9_longAt 0 = .ok (.aload_n 0, 1) := by decide +kernel
theorem dX9_longAt_1 : decode cX9_longAt 1 = .ok (.invokevirtual 170, 3) := by decide +kernel
theorem dX9_longAt_4 : decode cX9_longAt 4 = .ok (.aload_n 0, 1) := by decide +kernel
theorem dX9_longAt_5 : decode cX9_longAt 5 = .ok (.iload_n 1, 1) := by decide +kernel
theorem dX9_longAt_6 : decode cX9_longAt 6 = .ok (.iload_n 2, 1) := by decide +kernel
theorem dX9_longAt_7 : decode cX9_longAt 7 = .ok (.invokevirtual 167, 3) := by decide +kernel
theorem dX9_longAt_10 : decode cX9_longAt 10 = .ok (.iconst 1, 1) := by decide +kernel
theorem dX9_longAt_11 : decode cX9_longAt 11 = .ok (.isub, 1) := by decide +kernel
theorem dX9_longAt_12 : decode cX9_longAt 12 = .ok (.iconst 1, 1) := by decide +kernel
theorem dX9_longAt_13 : decode cX9_longAt 13 = .ok (.ishr, 1) := by decide +kernel
theorem dX9_longAt_14 : decode cX9_longAt 14 = .ok (.ireturn, 1) := by decide +kernel
theorem dX9_nimAt_0 : decode cX9_nimAt 0 = .ok (.sipush 4096, 3) := by decide +kernel
theorem dX9_nimAt_3 : decode cX9_nimAt 3 = .ok (.iload_n 1, 1) := by decide +kernel
theorem dX9_nimAt_4 : decode cX9_nimAt 4 = .ok (.imul, 1) := by decide +kernel
theorem dX9_nimAt_5 : decode cX9_nimAt 5 = .ok (.iload_n 2, 1) := by decide +kernel
theorem dX9_nimAt_6 : decode cX9_nimAt 6 = .ok (.iadd, 1) := by decide +kernel
theorem dX9_nimAt_7 : decode cX9_nimAt 7 = .ok (.istore_n 3, 1) := by decide +kernel
theorem dX9_nimAt_8 : decode cX9_nimAt 8 = .ok (.aload_n 0, 1) := by decide +kernel
theorem dX9_nimAt_9 : decode cX9_nimAt 9 = .ok (.getfield 42, 3) := by decide +kernel
theorem dX9_nimAt_12 : decode cX9_nimAt 12 = .ok (.iload_n 3, 1) := by decide +kernel
theorem dX9_nimAt_13 : decode cX9_nimAt 13 = .ok (.iaload, 1) := by decide +kernel
theorem dX9_nimAt_14 : decode cX9_nimAt 14 = .ok (.ifCond .eq 12, 3) := by decide +kernel
theorem dX9_nimAt_17 : decode cX9_nimAt 17 = .ok (.aload_n 0, 1) := by decide +kernel
theorem dX9_nimAt_18 : decode cX9_nimAt 18 = .ok (.getfield 42, 3) := by decide +kernel
theorem dX9_nimAt_21 : decode cX9_nimAt 21 = .ok (.iload_n 3, 1) := by decide +kernel
theorem dX9_nimAt_22 : decode cX9_nimAt 22 = .ok (.iaload, 1) := by decide +kernel
theorem dX9_nimAt_23 : decode cX9_nimAt 23 = .ok (.iconst 1, 1) := by decide +kernel
theorem dX9_nimAt_24 : decode cX9_nimAt 24 = .ok (.isub, 1) := by decide +kernel
theorem dX9_nimAt_25 : decode cX9_nimAt 25 = .ok (.ireturn, 1) := by decide +kernel
theorem dX9_nimAt_26 : decode cX9_nimAt 26 = .ok (.iconst 0, 1) := by decide +kernel
theorem dX9_nimAt_27 : decode cX9_nimAt 27 = .ok (.istore 4, 2) := by decide +kernel
theorem dX9_nimAt_29 : decode cX9_nimAt 29 = .ok (.iconst 0, 1) := by decide +kernel
theorem dX9_nimAt_30 : decode cX9_nimAt 30 = .ok (.istore 5, 2) := by decide +kernel
theorem dX9_nimAt_32 : decode cX9_nimAt 32 = .ok (.iload 5, 2) := by decide +kernel
theorem dX9_nimAt_34 : decode cX9_nimAt 34 = .ok (.aload_n 0, 1) := by decide +kernel
theorem dX9_nimAt_35 : decode cX9_nimAt 35 = .ok (.getfield 72, 3) := by decide +kernel
theorem dX9_nimAt_38 : decode cX9_nimAt 38 = .ok (.if_icmp .ge 50, 3) := by decide +kernel
theorem dX9_nimAt_41 : decode cX9_nimAt 41 = .ok (.iload 4, 2) := by decide +kernel
theorem dX9_nimAt_43 : decode cX9_nimAt 43 = .ok (.aload_n 0, 1) := by decide +kernel
theorem dX9_nimAt_44 : decode cX9_nimAt 44 = .ok (.iload 5, 2) := by decide +kernel
theorem dX9_nimAt_46 : decode cX9_nimAt 46 = .ok (.iload_n 1, 1) := by decide +kernel
theorem dX9_nimAt_47 : decode cX9_nimAt 47 = .ok (.iload_n 2, 1) := by decide +kernel
theorem dX9_nimAt_48 : decode cX9_nimAt 48 = .ok (.invokevirtual 160, 3) := by decide +kernel
theorem dX9_nimAt_51 : decode cX9_nimAt 51 = .ok (.ifCond .eq 27, 3) := by decide +kernel
theorem dX9_nimAt_54 : decode cX9_nimAt 54 = .ok (.iconst 1, 1) := by decide +kernel
theorem dX9_nimAt_55 : decode cX9_nimAt 55 = .ok (.aload_n 0, 1) := by decide +kernel
theorem dX9_nimAt_56 : decode cX9_nimAt 56 = .ok (.aload_n 0, 1) := by decide +kernel
theorem dX9_nimAt_57 : decode cX9_nimAt 57 = .ok (.iload 5, 2) := by decide +kernel
theorem dX9_nimAt_59 : decode cX9_nimAt 59 = .ok (.iload_n 1, 1) := by decide +kernel
theorem dX9_nimAt_60 : decode cX9_nimAt 60 = .ok (.invokevirtual 101, 3) := by decide +kernel
theorem dX9_nimAt_63 : decode cX9_nimAt 63 = .ok (.aload_n 0, 1) := by decide +kernel
theorem dX9_nimAt_64 : decode cX9_nimAt 64 = .ok (.iload 5, 2) := by decide +kernel
theorem dX9_nimAt_66 : decode cX9_nimAt 66 = .ok (.iload_n 1, 1) := by decide +kernel
theorem dX9_nimAt_67 : decode cX9_nimAt 67 = .ok (.iload_n 2, 1) := by decide +kernel
theorem dX9_nimAt_68 : decode cX9_nimAt 68 = .ok (.invokevirtual 163, 3) := by decide +kernel
theorem dX9_nimAt_71 : decode cX9_nimAt 71 = .ok (.invokevirtual 173, 3) := by decide +kernel
theorem dX9_nimAt_74 : decode cX9_nimAt 74 = .ok (.ishl, 1) := by decide +kernel
theorem dX9_nimAt_75 : decode cX9_nimAt 75 = .ok (.goto 4, 3) := by decide +kernel
theorem dX9_nimAt_78 : decode cX9_nimAt 78 = .ok (.iconst 0, 1) := by decide +kernel
theorem dX9_nimAt_79 : decode cX9_nimAt 79 = .ok (.ior, 1) := by decide +kernel
theorem dX9_nimAt_80 : decode cX9_nimAt 80 = .ok (.istore 4, 2) := by decide +kernel
theorem dX9_nimAt_82 : decode cX9_nimAt 82 = .ok (.iinc 5 1, 3) := by decide +kernel
theorem dX9_nimAt_85 : decode cX9_nimAt 85 = .ok (.goto (-53), 3) := by decide +kernel
theorem dX9_nimAt_88 : decode cX9_nimAt 88 = .ok (.iconst 0, 1) := by decide +kernel
theorem dX9_nimAt_89 : decode cX9_nimAt 89 = .ok (.istore 5, 2) := by decide +kernel
theorem dX9_nimAt_91 : decode cX9_nimAt 91 = .ok (.iload 4, 2) := by decide +kernel
theorem dX9_nimAt_93 : decode cX9_nimAt 93 = .ok (.iload 5, 2) := by decide +kernel
theorem dX9_nimAt_95 : decode cX9_nimAt 95 = .ok (.invokestatic 114, 3) := by decide +kernel
theorem dX9_nimAt_98 : decode cX9_nimAt 98 = .ok (.ifCond .eq 9, 3) := by decide +kernel
theorem dX9_nimAt_101 : decode cX9_nimAt 101 = .ok (.iinc 5 1, 3) := by decide +kernel
theorem dX9_nimAt_104 : decode cX9_nimAt 104 = .ok (.goto (-13), 3) := by decide +kernel
theorem dX9_nimAt_107 : decode cX9_nimAt 107 = .ok (.aload_n 0, 1) := by decide +kernel
theorem dX9_nimAt_108 : decode cX9_nimAt 108 = .ok (.getfield 42, 3) := by decide +kernel
theorem dX9_nimAt_111 : decode cX9_nimAt 111 = .ok (.iload_n 3, 1) := by decide +kernel
theorem dX9_nimAt_112 : decode cX9_nimAt 112 = .ok (.iload 5, 2) := by decide +kernel
theorem dX9_nimAt_114 : decode cX9_nimAt 114 = .ok (.iconst 1, 1) := by decide +kernel
theorem dX9_nimAt_115 : decode cX9_nimAt 115 = .ok (.iadd, 1) := by decide +kernel
theorem dX9_nimAt_116 : decode cX9_nimAt 116 = .ok (.iastore, 1) := by decide +kernel
theorem dX9_nimAt_117 : decode cX9_nimAt 117 = .ok (.iload 5, 2) := by decide +kernel
theorem dX9_nimAt_119 : decode cX9_nimAt 119 = .ok (.ireturn, 1) := by decide +kernel
theorem dX9_setNow_0 : decode cX9_setNow 0 = .ok (.aload_n 0, 1) := by decide +kernel
theorem dX9_setNow_1 : decode cX9_setNow 1 = .ok (.invokevirtual 157, 3) := by decide +kernel
theorem dX9_setNow_4 : decode cX9_setNow 4 = .ok (.ifCond .eq 10, 3) := by decide +kernel
theorem dX9_setNow_7 : decode cX9_setNow 7 = .ok (.aload_n 0, 1) := by decide +kernel
theorem dX9_setNow_8 : decode cX9_setNow 8 = .ok (.getfield 176, 3) := by decide +kernel
theorem dX9_setNow_11 : decode cX9_setNow 11 = .ok (.goto 7, 3) := by decide +kernel
theorem dX9_setNow_14 : decode cX9_setNow 14 = .ok (.aload_n 0, 1) := by decide +kernel
theorem dX9_setNow_15 : decode cX9_setNow 15 = .ok (.getfield 179, 3) := by decide +kernel
theorem dX9_setNow_18 : decode cX9_setNow 18 = .ok (.ireturn, 1) := by decide +kernel
theorem dX9_movesNow_0 : decode cX9_movesNow 0 = .ok (.aload_n 0, 1) := by decide +kernel
theorem dX9_movesNow_1 : decode cX9_movesNow 1 = .ok (.aload_n 0, 1) := by decide +kernel
theorem dX9_movesNow_2 : decode cX9_movesNow 2 = .ok (.getfield 182, 3) := by decide +kernel
theorem dX9_movesNow_5 : decode cX9_movesNow 5 = .ok (.aload_n 0, 1) := by decide +kernel
theorem dX9_movesNow_6 : decode cX9_movesNow 6 = .ok (.invokevirtual 185, 3) := by decide +kernel
theorem dX9_movesNow_9 : decode cX9_movesNow 9 = .ok (.invokevirtual 188, 3) := by decide +kernel
theorem dX9_movesNow_12 : decode cX9_movesNow 12 = .ok (.ireturn, 1) := by decide +kernel
theorem dX9_isOver_0 : decode cX9_isOver 0 = .ok (.aload_n 0, 1) := by decide +kernel
theorem dX9_isOver_1 : decode cX9_isOver 1 = .ok (.invokevirtual 191, 3) := by decide +kernel
theorem dX9_isOver_4 : decode cX9_isOver 4 = .ok (.ifCond .ne 7, 3) := by decide +kernel
theorem dX9_isOver_7 : decode cX9_isOver 7 = .ok (.iconst 1, 1) := by decide +kernel
theorem dX9_isOver_8 : decode cX9_isOver 8 = .ok (.goto 4, 3) := by decide +kernel
theorem dX9_isOver_11 : decode cX9_isOver 11 = .ok (.iconst 0, 1) := by decide +kernel
theorem dX9_isOver_12 : decode cX9_isOver 12 = .ok (.ireturn, 1) := by decide +kernel
theorem dX9_winsBehind_0 : decode cX9_winsBehind 0 = .ok (.aload_n 0, 1) := by decide +kernel
theorem dX9_winsBehind_1 : decode cX9_winsBehind 1 = .ok (.aload_n 0, 1) := by decide +kernel
theorem dX9_winsBehind_2 : decode cX9_winsBehind 2 = .ok (.iload_n 1, 1) := by decide +kernel
theorem dX9_winsBehind_3 : decode cX9_winsBehind 3 = .ok (.aload_n 0, 1) := by decide +kernel
theorem dX9_winsBehind_4 : decode cX9_winsBehind 4 = .ok (.getfield 182, 3) := by decide +kernel
theorem dX9_winsBehind_7 : decode cX9_winsBehind 7 = .ok (.invokevirtual 101, 3) := by decide +kernel
theorem dX9_winsBehind_10 : decode cX9_winsBehind 10 = .ok (.aload_n 0, 1) := by decide +kernel
theorem dX9_winsBehind_11 : decode cX9_winsBehind 11 = .ok (.iload_n 1, 1) := by decide +kernel
theorem dX9_winsBehind_12 : decode cX9_winsBehind 12 = .ok (.aload_n 0, 1) := by decide +kernel
theorem dX9_winsBehind_13 : decode cX9_winsBehind 13 = .ok (.getfield 182, 3) := by decide +kernel
theorem dX9_winsBehind_16 : decode cX9_winsBehind 16 = .ok (.aload_n 0, 1) := by decide +kernel
theorem dX9_winsBehind_17 : decode cX9_winsBehind 17 = .ok (.invokevirtual 185, 3) := by decide +kernel
theorem dX9_winsBehind_20 : decode cX9_winsBehind 20 = .ok (.invokevirtual 163, 3) := by decide +kernel
theorem dX9_winsBehind_23 : decode cX9_winsBehind 23 = .ok (.invokevirtual 194, 3) := by decide +kernel
theorem dX9_winsBehind_26 : decode cX9_winsBehind 26 = .ok (.ifCond .ne 7, 3) := by decide +kernel
theorem dX9_winsBehind_29 : decode cX9_winsBehind 29 = .ok (.iconst 1, 1) := by decide +kernel
theorem dX9_winsBehind_30 : decode cX9_winsBehind 30 = .ok (.goto 4, 3) := by decide +kernel
theorem dX9_winsBehind_33 : decode cX9_winsBehind 33 = .ok (.iconst 0, 1) := by decide +kernel
theorem dX9_winsBehind_34 : decode cX9_winsBehind 34 = .ok (.ireturn, 1) := by decide +kernel
theorem dX9_beginsAt_0 : decode cX9_beginsAt 0 = .ok (.aload_n 0, 1) := by decide +kernel
theorem dX9_beginsAt_1 : decode cX9_beginsAt 1 = .ok (.iload_n 1, 1) := by decide +kernel
theorem dX9_beginsAt_2 : decode cX9_beginsAt 2 = .ok (.putfield 150, 3) := by decide +kernel
theorem dX9_beginsAt_5 : decode cX9_beginsAt 5 = .ok (.aload_n 0, 1) := by decide +kernel
theorem dX9_beginsAt_6 : decode cX9_beginsAt 6 = .ok (.iload_n 2, 1) := by decide +kernel
theorem dX9_beginsAt_7 : decode cX9_beginsAt 7 = .ok (.putfield 197, 3) := by decide +kernel
theorem dX9_beginsAt_10 : decode cX9_beginsAt 10 = .ok (.aload_n 0, 1) := by decide +kernel
theorem dX9_beginsAt_11 : decode cX9_beginsAt 11 = .ok (.iload_n 2, 1) := by decide +kernel
theorem dX9_beginsAt_12 : decode cX9_beginsAt 12 = .ok (.putfield 182, 3) := by decide +kernel
theorem dX9_beginsAt_15 : decode cX9_beginsAt 15 = .ok (.aload_n 0, 1) := by decide +kernel
theorem dX9_beginsAt_16 : decode cX9_beginsAt 16 = .ok (.iconst 1, 1) := by decide +kernel
theorem dX9_beginsAt_17 : decode cX9_beginsAt 17 = .ok (.iload_n 2, 1) := by decide +kernel
theorem dX9_beginsAt_18 : decode cX9_beginsAt 18 = .ok (.ishl, 1) := by decide +kernel
theorem dX9_beginsAt_19 : decode cX9_beginsAt 19 = .ok (.putfield 179, 3) := by decide +kernel
theorem dX9_beginsAt_22 : decode cX9_beginsAt 22 = .ok (.aload_n 0, 1) := by decide +kernel
theorem dX9_beginsAt_23 : decode cX9_beginsAt 23 = .ok (.iconst 0, 1) := by decide +kernel
theorem dX9_beginsAt_24 : decode cX9_beginsAt 24 = .ok (.putfield 176, 3) := by decide +kernel
theorem dX9_beginsAt_27 : decode cX9_beginsAt 27 = .ok (.aload_n 0, 1) := by decide +kernel
theorem dX9_beginsAt_28 : decode cX9_beginsAt 28 = .ok (.iconst 0, 1) := by decide +kernel
theorem dX9_beginsAt_29 : decode cX9_beginsAt 29 = .ok (.putfield 200, 3) := by decide +kernel
theorem dX9_beginsAt_32 : decode cX9_beginsAt 32 = .ok (.return_, 1) := by decide +kernel
theorem dX9_begin_0 : decode cX9_begin 0 = .ok (.iload_n 1, 1) := by decide +kernel
theorem dX9_begin_1 : decode cX9_begin 1 = .ok (.iconst 0, 1) := by decide +kernel
theorem dX9_begin_2 : decode cX9_begin 2 = .ok (.iconst 4, 1) := by decide +kernel
theorem dX9_begin_3 : decode cX9_begin 3 = .ok (.invokestatic 68, 3) := by decide +kernel
theorem dX9_begin_6 : decode cX9_begin 6 = .ok (.ifCond .eq 11, 3) := by decide +kernel
theorem dX9_begin_9 : decode cX9_begin 9 = .ok (.aload_n 0, 1) := by decide +kernel
theorem dX9_begin_10 : decode cX9_begin 10 = .ok (.iload_n 2, 1) := by decide +kernel
theorem dX9_begin_11 : decode cX9_begin 11 = .ok (.invokevirtual 86, 3) := by decide +kernel
theorem dX9_begin_14 : decode cX9_begin 14 = .ok (.ifCond .ne 9, 3) := by decide +kernel
theorem dX9_begin_17 : decode cX9_begin 17 = .ok (.aload_n 0, 1) := by decide +kernel
theorem dX9_begin_18 : decode cX9_begin 18 = .ok (.iconst 1, 1) := by decide +kernel
theorem dX9_begin_19 : decode cX9_begin 19 = .ok (.invokevirtual 79, 3) := by decide +kernel
theorem dX9_begin_22 : decode cX9_begin 22 = .ok (.ireturn, 1) := by decide +kernel
theorem dX9_begin_23 : decode cX9_begin 23 = .ok (.aload_n 0, 1) := by decide +kernel
theorem dX9_begin_24 : decode cX9_begin 24 = .ok (.iconst 1, 1) := by decide +kernel
theorem dX9_begin_25 : decode cX9_begin 25 = .ok (.putfield 75, 3) := by decide +kernel
theorem dX9_begin_28 : decode cX9_begin 28 = .ok (.aload_n 0, 1) := by decide +kernel
theorem dX9_begin_29 : decode cX9_begin 29 = .ok (.iload_n 1, 1) := by decide +kernel
theorem dX9_begin_30 : decode cX9_begin 30 = .ok (.iload_n 2, 1) := by decide +kernel
theorem dX9_begin_31 : decode cX9_begin 31 = .ok (.invokevirtual 203, 3) := by decide +kernel
theorem dX9_begin_34 : decode cX9_begin 34 = .ok (.aload_n 0, 1) := by decide +kernel
theorem dX9_begin_35 : decode cX9_begin 35 = .ok (.aload_n 0, 1) := by decide +kernel
theorem dX9_begin_36 : decode cX9_begin 36 = .ok (.getfield 182, 3) := by decide +kernel
theorem dX9_begin_39 : decode cX9_begin 39 = .ok (.aload_n 0, 1) := by decide +kernel
theorem dX9_begin_40 : decode cX9_begin 40 = .ok (.invokevirtual 185, 3) := by decide +kernel
theorem dX9_begin_43 : decode cX9_begin 43 = .ok (.invokevirtual 194, 3) := by decide +kernel
theorem dX9_begin_46 : decode cX9_begin 46 = .ok (.ifCond .eq 7, 3) := by decide +kernel
theorem dX9_begin_49 : decode cX9_begin 49 = .ok (.iconst 1, 1) := by decide +kernel
theorem dX9_begin_50 : decode cX9_begin 50 = .ok (.goto 4, 3) := by decide +kernel
theorem dX9_begin_53 : decode cX9_begin 53 = .ok (.iconst 0, 1) := by decide +kernel
theorem dX9_begin_54 : decode cX9_begin 54 = .ok (.ireturn, 1) := by decide +kernel
theorem dX9_goes_0 : decode cX9_goes 0 = .ok (.aload_n 0, 1) := by decide +kernel
theorem dX9_goes_1 : decode cX9_goes 1 = .ok (.aload_n 0, 1) := by decide +kernel
theorem dX9_goes_2 : decode cX9_goes 2 = .ok (.iload_n 1, 1) := by decide +kernel
theorem dX9_goes_3 : decode cX9_goes 3 = .ok (.aload_n 0, 1) := by decide +kernel
theorem dX9_goes_4 : decode cX9_goes 4 = .ok (.getfield 182, 3) := by decide +kernel
theorem dX9_goes_7 : decode cX9_goes 7 = .ok (.invokevirtual 101, 3) := by decide +kernel
theorem dX9_goes_10 : decode cX9_goes 10 = .ok (.putfield 182, 3) := by decide +kernel
theorem dX9_goes_13 : decode cX9_goes 13 = .ok (.aload_n 0, 1) := by decide +kernel
theorem dX9_goes_14 : decode cX9_goes 14 = .ok (.dup, 1) := by decide +kernel
theorem dX9_goes_15 : decode cX9_goes 15 = .ok (.getfield 179, 3) := by decide +kernel
theorem dX9_goes_18 : decode cX9_goes 18 = .ok (.iconst 1, 1) := by decide +kernel
theorem dX9_goes_19 : decode cX9_goes 19 = .ok (.aload_n 0, 1) := by decide +kernel
theorem dX9_goes_20 : decode cX9_goes 20 = .ok (.getfield 182, 3) := by decide +kernel
theorem dX9_goes_23 : decode cX9_goes 23 = .ok (.ishl, 1) := by decide +kernel
theorem dX9_goes_24 : decode cX9_goes 24 = .ok (.ior, 1) := by decide +kernel
theorem dX9_goes_25 : decode cX9_goes 25 = .ok (.putfield 179, 3) := by decide +kernel
theorem dX9_goes_28 : decode cX9_goes 28 = .ok (.aload_n 0, 1) := by decide +kernel
theorem dX9_goes_29 : decode cX9_goes 29 = .ok (.dup, 1) := by decide +kernel
theorem dX9_goes_30 : decode cX9_goes 30 = .ok (.getfield 176, 3) := by decide +kernel
theorem dX9_goes_33 : decode cX9_goes 33 = .ok (.iconst 1, 1) := by decide +kernel
theorem dX9_goes_34 : decode cX9_goes 34 = .ok (.iload_n 1, 1) := by decide +kernel
theorem dX9_goes_35 : decode cX9_goes 35 = .ok (.ishl, 1) := by decide +kernel
theorem dX9_goes_36 : decode cX9_goes 36 = .ok (.ior, 1) := by decide +kernel
theorem dX9_goes_37 : decode cX9_goes 37 = .ok (.putfield 176, 3) := by decide +kernel
theorem dX9_goes_40 : decode cX9_goes 40 = .ok (.aload_n 0, 1) := by decide +kernel
theorem dX9_goes_41 : decode cX9_goes 41 = .ok (.getfield 35, 3) := by decide +kernel
theorem dX9_goes_44 : decode cX9_goes 44 = .ok (.aload_n 0, 1) := by decide +kernel
theorem dX9_goes_45 : decode cX9_goes 45 = .ok (.getfield 200, 3) := by decide +kernel
theorem dX9_goes_48 : decode cX9_goes 48 = .ok (.iload_n 1, 1) := by decide +kernel
theorem dX9_goes_49 : decode cX9_goes 49 = .ok (.iastore, 1) := by decide +kernel
theorem dX9_goes_50 : decode cX9_goes 50 = .ok (.aload_n 0, 1) := by decide +kernel
theorem dX9_goes_51 : decode cX9_goes 51 = .ok (.dup, 1) := by decide +kernel
theorem dX9_goes_52 : decode cX9_goes 52 = .ok (.getfield 200, 3) := by decide +kernel
theorem dX9_goes_55 : decode cX9_goes 55 = .ok (.iconst 1, 1) := by decide +kernel
theorem dX9_goes_56 : decode cX9_goes 56 = .ok (.iadd, 1) := by decide +kernel
theorem dX9_goes_57 : decode cX9_goes 57 = .ok (.putfield 200, 3) := by decide +kernel
theorem dX9_goes_60 : decode cX9_goes 60 = .ok (.return_, 1) := by decide +kernel
theorem dX9_go_0 : decode cX9_go 0 = .ok (.aload_n 0, 1) := by decide +kernel
theorem dX9_go_1 : decode cX9_go 1 = .ok (.getfield 75, 3) := by decide +kernel
theorem dX9_go_4 : decode cX9_go 4 = .ok (.ifCond .eq 10, 3) := by decide +kernel
theorem dX9_go_7 : decode cX9_go 7 = .ok (.aload_n 0, 1) := by decide +kernel
theorem dX9_go_8 : decode cX9_go 8 = .ok (.invokevirtual 207, 3) := by decide +kernel
theorem dX9_go_11 : decode cX9_go 11 = .ok (.ifCond .eq 9, 3) := by decide +kernel
theorem dX9_go_14 : decode cX9_go 14 = .ok (.aload_n 0, 1) := by decide +kernel
theorem dX9_go_15 : decode cX9_go 15 = .ok (.iconst 3, 1) := by decide +kernel
theorem dX9_go_16 : decode cX9_go 16 = .ok (.invokevirtual 79, 3) := by decide +kernel
theorem dX9_go_19 : decode cX9_go 19 = .ok (.ireturn, 1) := by decide +kernel
theorem dX9_go_20 : decode cX9_go 20 = .ok (.aload_n 0, 1) := by decide +kernel
theorem dX9_go_21 : decode cX9_go 21 = .ok (.iload_n 1, 1) := by decide +kernel
theorem dX9_go_22 : decode cX9_go 22 = .ok (.invokevirtual 94, 3) := by decide +kernel
theorem dX9_go_25 : decode cX9_go 25 = .ok (.ifCond .ne 9, 3) := by decide +kernel
theorem dX9_go_28 : decode cX9_go 28 = .ok (.aload_n 0, 1) := by decide +kernel
theorem dX9_go_29 : decode cX9_go 29 = .ok (.iconst 1, 1) := by decide +kernel
theorem dX9_go_30 : decode cX9_go 30 = .ok (.invokevirtual 79, 3) := by decide +kernel
theorem dX9_go_33 : decode cX9_go 33 = .ok (.ireturn, 1) := by decide +kernel
theorem dX9_go_34 : decode cX9_go 34 = .ok (.aload_n 0, 1) := by decide +kernel
theorem dX9_go_35 : decode cX9_go 35 = .ok (.invokevirtual 191, 3) := by decide +kernel
theorem dX9_go_38 : decode cX9_go 38 = .ok (.iload_n 1, 1) := by decide +kernel
theorem dX9_go_39 : decode cX9_go 39 = .ok (.invokestatic 114, 3) := by decide +kernel
theorem dX9_go_42 : decode cX9_go 42 = .ok (.ifCond .ne 9, 3) := by decide +kernel
theorem dX9_go_45 : decode cX9_go 45 = .ok (.aload_n 0, 1) := by decide +kernel
theorem dX9_go_46 : decode cX9_go 46 = .ok (.iconst 2, 1) := by decide +kernel
theorem dX9_go_47 : decode cX9_go 47 = .ok (.invokevirtual 79, 3) := by decide +kernel
theorem dX9_go_50 : decode cX9_go 50 = .ok (.ireturn, 1) := by decide +kernel
theorem dX9_go_51 : decode cX9_go 51 = .ok (.aload_n 0, 1) := by decide +kernel
theorem dX9_go_52 : decode cX9_go 52 = .ok (.iload_n 1, 1) := by decide +kernel
theorem dX9_go_53 : decode cX9_go 53 = .ok (.invokevirtual 210, 3) := by decide +kernel
theorem dX9_go_56 : decode cX9_go 56 = .ok (.aload_n 0, 1) := by decide +kernel
theorem dX9_go_57 : decode cX9_go 57 = .ok (.invokevirtual 207, 3) := by decide +kernel
theorem dX9_go_60 : decode cX9_go 60 = .ok (.ifCond .eq 7, 3) := by decide +kernel
theorem dX9_go_63 : decode cX9_go 63 = .ok (.iconst 1, 1) := by decide +kernel
theorem dX9_go_64 : decode cX9_go 64 = .ok (.goto 4, 3) := by decide +kernel
theorem dX9_go_67 : decode cX9_go 67 = .ok (.iconst 0, 1) := by decide +kernel
theorem dX9_go_68 : decode cX9_go 68 = .ok (.ireturn, 1) := by decide +kernel
theorem dX9_goesBack_0 : decode cX9_goesBack 0 = .ok (.aload_n 0, 1) := by decide +kernel
theorem dX9_goesBack_1 : decode cX9_goesBack 1 = .ok (.getfield 200, 3) := by decide +kernel
theorem dX9_goesBack_4 : decode cX9_goesBack 4 = .ok (.iconst 1, 1) := by decide +kernel
theorem dX9_goesBack_5 : decode cX9_goesBack 5 = .ok (.isub, 1) := by decide +kernel
theorem dX9_goesBack_6 : decode cX9_goesBack 6 = .ok (.istore_n 1, 1) := by decide +kernel
theorem dX9_goesBack_7 : decode cX9_goesBack 7 = .ok (.aload_n 0, 1) := by decide +kernel
theorem dX9_goesBack_8 : decode cX9_goesBack 8 = .ok (.aload_n 0, 1) := by decide +kernel
theorem dX9_goesBack_9 : decode cX9_goesBack 9 = .ok (.getfield 150, 3) := by decide +kernel
theorem dX9_goesBack_12 : decode cX9_goesBack 12 = .ok (.aload_n 0, 1) := by decide +kernel
theorem dX9_goesBack_13 : decode cX9_goesBack 13 = .ok (.getfield 197, 3) := by decide +kernel
theorem dX9_goesBack_16 : decode cX9_goesBack 16 = .ok (.invokevirtual 203, 3) := by decide +kernel
theorem dX9_goesBack_19 : decode cX9_goesBack 19 = .ok (.iconst 0, 1) := by decide +kernel
theorem dX9_goesBack_20 : decode cX9_goesBack 20 = .ok (.istore_n 2, 1) := by decide +kernel
theorem dX9_goesBack_21 : decode cX9_goesBack 21 = .ok (.iload_n 2, 1) := by decide +kernel
theorem dX9_goesBack_22 : decode cX9_goesBack 22 = .ok (.iload_n 1, 1) := by decide +kernel
theorem dX9_goesBack_23 : decode cX9_goesBack 23 = .ok (.if_icmp .ge 19, 3) := by decide +kernel
theorem dX9_goesBack_26 : decode cX9_goesBack 26 = .ok (.aload_n 0, 1) := by decide +kernel
theorem dX9_goesBack_27 : decode cX9_goesBack 27 = .ok (.aload_n 0, 1) := by decide +kernel
theorem dX9_goesBack_28 : decode cX9_goesBack 28 = .ok (.getfield 35, 3) := by decide +kernel
theorem dX9_goesBack_31 : decode cX9_goesBack 31 = .ok (.iload_n 2, 1) := by decide +kernel
theorem dX9_goesBack_32 : decode cX9_goesBack 32 = .ok (.iaload, 1) := by decide +kernel
theorem dX9_goesBack_33 : decode cX9_goesBack 33 = .ok (.invokevirtual 210, 3) := by decide +kernel
theorem dX9_goesBack_36 : decode cX9_goesBack 36 = .ok (.iinc 2 1, 3) := by decide +kernel
theorem dX9_goesBack_39 : decode cX9_goesBack 39 = .ok (.goto (-18), 3) := by decide +kernel
theorem dX9_goesBack_42 : decode cX9_goesBack 42 = .ok (.return_, 1) := by decide +kernel
theorem dX9_back_0 : decode cX9_back 0 = .ok (.aload_n 0, 1) := by decide +kernel
theorem dX9_back_1 : decode cX9_back 1 = .ok (.getfield 75, 3) := by decide +kernel
theorem dX9_back_4 : decode cX9_back 4 = .ok (.ifCond .ne 9, 3) := by decide +kernel
theorem dX9_back_7 : decode cX9_back 7 = .ok (.aload_n 0, 1) := by decide +kernel
theorem dX9_back_8 : decode cX9_back 8 = .ok (.iconst 3, 1) := by decide +kernel
theorem dX9_back_9 : decode cX9_back 9 = .ok (.invokevirtual 79, 3) := by decide +kernel
theorem dX9_back_12 : decode cX9_back 12 = .ok (.ireturn, 1) := by decide +kernel
theorem dX9_back_13 : decode cX9_back 13 = .ok (.aload_n 0, 1) := by decide +kernel
theorem dX9_back_14 : decode cX9_back 14 = .ok (.getfield 200, 3) := by decide +kernel
theorem dX9_back_17 : decode cX9_back 17 = .ok (.ifCond .ne 9, 3) := by decide +kernel
theorem dX9_back_20 : decode cX9_back 20 = .ok (.aload_n 0, 1) := by decide +kernel
theorem dX9_back_21 : decode cX9_back 21 = .ok (.iconst 2, 1) := by decide +kernel
theorem dX9_back_22 : decode cX9_back 22 = .ok (.invokevirtual 79, 3) := by decide +kernel
theorem dX9_back_25 : decode cX9_back 25 = .ok (.ireturn, 1) := by decide +kernel
theorem dX9_back_26 : decode cX9_back 26 = .ok (.aload_n 0, 1) := by decide +kernel
theorem dX9_back_27 : decode cX9_back 27 = .ok (.invokevirtual 214, 3) := by decide +kernel
theorem dX9_back_30 : decode cX9_back 30 = .ok (.aload_n 0, 1) := by decide +kernel
theorem dX9_back_31 : decode cX9_back 31 = .ok (.getfield 200, 3) := by decide +kernel
theorem dX9_back_34 : decode cX9_back 34 = .ok (.ireturn, 1) := by decide +kernel
theorem dX9_mover_0 : decode cX9_mover 0 = .ok (.aload_n 0, 1) := by decide +kernel
theorem dX9_mover_1 : decode cX9_mover 1 = .ok (.getfield 200, 3) := by decide +kernel
theorem dX9_mover_4 : decode cX9_mover 4 = .ok (.iconst 2, 1) := by decide +kernel
theorem dX9_mover_5 : decode cX9_mover 5 = .ok (.irem, 1) := by decide +kernel
theorem dX9_mover_6 : decode cX9_mover 6 = .ok (.ireturn, 1) := by decide +kernel
theorem dX9_winner_0 : decode cX9_winner 0 = .ok (.aload_n 0, 1) := by decide +kernel
theorem dX9_winner_1 : decode cX9_winner 1 = .ok (.aload_n 0, 1) := by decide +kernel
theorem dX9_winner_2 : decode cX9_winner 2 = .ok (.getfield 182, 3) := by decide +kernel
theorem dX9_winner_5 : decode cX9_winner 5 = .ok (.aload_n 0, 1) := by decide +kernel
theorem dX9_winner_6 : decode cX9_winner 6 = .ok (.invokevirtual 185, 3) := by decide +kernel
theorem dX9_winner_9 : decode cX9_winner 9 = .ok (.invokevirtual 194, 3) := by decide +kernel
theorem dX9_winner_12 : decode cX9_winner 12 = .ok (.ifCond .eq 10, 3) := by decide +kernel
theorem dX9_winner_15 : decode cX9_winner 15 = .ok (.aload_n 0, 1) := by decide +kernel
theorem dX9_winner_16 : decode cX9_winner 16 = .ok (.invokevirtual 217, 3) := by decide +kernel
theorem dX9_winner_19 : decode cX9_winner 19 = .ok (.goto 9, 3) := by decide +kernel
theorem dX9_winner_22 : decode cX9_winner 22 = .ok (.iconst 1, 1) := by decide +kernel
theorem dX9_winner_23 : decode cX9_winner 23 = .ok (.aload_n 0, 1) := by decide +kernel
theorem dX9_winner_24 : decode cX9_winner 24 = .ok (.invokevirtual 217, 3) := by decide +kernel
theorem dX9_winner_27 : decode cX9_winner 27 = .ok (.isub, 1) := by decide +kernel
theorem dX9_winner_28 : decode cX9_winner 28 = .ok (.ireturn, 1) := by decide +kernel
theorem dX9_game_0 : decode cX9_game 0 = .ok (.iload_n 1, 1) := by decide +kernel
theorem dX9_game_1 : decode cX9_game 1 = .ok (.iconst 0, 1) := by decide +kernel
theorem dX9_game_2 : decode cX9_game 2 = .ok (.bipush 7, 2) := by decide +kernel
theorem dX9_game_4 : decode cX9_game 4 = .ok (.invokestatic 68, 3) := by decide +kernel
theorem dX9_game_7 : decode cX9_game 7 = .ok (.ifCond .ne 9, 3) := by decide +kernel
theorem dX9_game_10 : decode cX9_game 10 = .ok (.aload_n 0, 1) := by decide +kernel
theorem dX9_game_11 : decode cX9_game 11 = .ok (.iconst 1, 1) := by decide +kernel
theorem dX9_game_12 : decode cX9_game 12 = .ok (.invokevirtual 79, 3) := by decide +kernel
theorem dX9_game_15 : decode cX9_game 15 = .ok (.ireturn, 1) := by decide +kernel
theorem dX9_game_16 : decode cX9_game 16 = .ok (.aload_n 0, 1) := by decide +kernel
theorem dX9_game_17 : decode cX9_game 17 = .ok (.getfield 75, 3) := by decide +kernel
theorem dX9_game_20 : decode cX9_game 20 = .ok (.ifCond .ne 9, 3) := by decide +kernel
theorem dX9_game_23 : decode cX9_game 23 = .ok (.aload_n 0, 1) := by decide +kernel
theorem dX9_game_24 : decode cX9_game 24 = .ok (.iconst 3, 1) := by decide +kernel
theorem dX9_game_25 : decode cX9_game 25 = .ok (.invokevirtual 79, 3) := by decide +kernel
theorem dX9_game_28 : decode cX9_game 28 = .ok (.ireturn, 1) := by decide +kernel
theorem dX9_game_29 : decode cX9_game 29 = .ok (.iload_n 1, 1) := by decide +kernel
theorem dX9_game_30 : decode cX9_game 30 = .ok (.tableswitch 85 0 6 #[42, 47, 52, 57, 62, 67, 72], 42) := by decide +kernel
theorem dX9_game_72 : decode cX9_game 72 = .ok (.aload_n 0, 1) := by decide +kernel
theorem dX9_game_73 : decode cX9_game 73 = .ok (.getfield 150, 3) := by decide +kernel
theorem dX9_game_76 : decode cX9_game 76 = .ok (.ireturn, 1) := by decide +kernel
theorem dX9_game_77 : decode cX9_game 77 = .ok (.aload_n 0, 1) := by decide +kernel
theorem dX9_game_78 : decode cX9_game 78 = .ok (.getfield 182, 3) := by decide +kernel
theorem dX9_game_81 : decode cX9_game 81 = .ok (.ireturn, 1) := by decide +kernel
theorem dX9_game_82 : decode cX9_game 82 = .ok (.aload_n 0, 1) := by decide +kernel
theorem dX9_game_83 : decode cX9_game 83 = .ok (.getfield 179, 3) := by decide +kernel
theorem dX9_game_86 : decode cX9_game 86 = .ok (.ireturn, 1) := by decide +kernel
theorem dX9_game_87 : decode cX9_game 87 = .ok (.aload_n 0, 1) := by decide +kernel
theorem dX9_game_88 : decode cX9_game 88 = .ok (.getfield 176, 3) := by decide +kernel
theorem dX9_game_91 : decode cX9_game 91 = .ok (.ireturn, 1) := by decide +kernel
theorem dX9_game_92 : decode cX9_game 92 = .ok (.aload_n 0, 1) := by decide +kernel
theorem dX9_game_93 : decode cX9_game 93 = .ok (.getfield 200, 3) := by decide +kernel
theorem dX9_game_96 : decode cX9_game 96 = .ok (.ireturn, 1) := by decide +kernel
theorem dX9_game_97 : decode cX9_game 97 = .ok (.aload_n 0, 1) := by decide +kernel
theorem dX9_game_98 : decode cX9_game 98 = .ok (.invokevirtual 217, 3) := by decide +kernel
theorem dX9_game_101 : decode cX9_game 101 = .ok (.ireturn, 1) := by decide +kernel
theorem dX9_game_102 : decode cX9_game 102 = .ok (.aload_n 0, 1) := by decide +kernel
theorem dX9_game_103 : decode cX9_game 103 = .ok (.invokevirtual 207, 3) := by decide +kernel
theorem dX9_game_106 : decode cX9_game 106 = .ok (.ifCond .eq 7, 3) := by decide +kernel
theorem dX9_game_109 : decode cX9_game 109 = .ok (.iconst 1, 1) := by decide +kernel
theorem dX9_game_110 : decode cX9_game 110 = .ok (.goto 4, 3) := by decide +kernel
theorem dX9_game_113 : decode cX9_game 113 = .ok (.iconst 0, 1) := by decide +kernel
theorem dX9_game_114 : decode cX9_game 114 = .ok (.ireturn, 1) := by decide +kernel
theorem dX9_game_115 : decode cX9_game 115 = .ok (.aload_n 0, 1) := by decide +kernel
theorem dX9_game_116 : decode cX9_game 116 = .ok (.invokevirtual 220, 3) := by decide +kernel
theorem dX9_game_119 : decode cX9_game 119 = .ok (.ireturn, 1) := by decide +kernel
theorem dX9_moved_0 : decode cX9_moved 0 = .ok (.aload_n 0, 1) := by decide +kernel
theorem dX9_moved_1 : decode cX9_moved 1 = .ok (.getfield 75, 3) := by decide +kernel
theorem dX9_moved_4 : decode cX9_moved 4 = .ok (.ifCond .ne 9, 3) := by decide +kernel
theorem dX9_moved_7 : decode cX9_moved 7 = .ok (.aload_n 0, 1) := by decide +kernel
theorem dX9_moved_8 : decode cX9_moved 8 = .ok (.iconst 3, 1) := by decide +kernel
theorem dX9_moved_9 : decode cX9_moved 9 = .ok (.invokevirtual 79, 3) := by decide +kernel
theorem dX9_moved_12 : decode cX9_moved 12 = .ok (.ireturn, 1) := by decide +kernel
theorem dX9_moved_13 : decode cX9_moved 13 = .ok (.iload_n 1, 1) := by decide +kernel
theorem dX9_moved_14 : decode cX9_moved 14 = .ok (.iconst 0, 1) := by decide +kernel
theorem dX9_moved_15 : decode cX9_moved 15 = .ok (.aload_n 0, 1) := by decide +kernel
theorem dX9_moved_16 : decode cX9_moved 16 = .ok (.getfield 200, 3) := by decide +kernel
theorem dX9_moved_19 : decode cX9_moved 19 = .ok (.iconst 1, 1) := by decide +kernel
theorem dX9_moved_20 : decode cX9_moved 20 = .ok (.isub, 1) := by decide +kernel
theorem dX9_moved_21 : decode cX9_moved 21 = .ok (.invokestatic 68, 3) := by decide +kernel
theorem dX9_moved_24 : decode cX9_moved 24 = .ok (.ifCond .eq 12, 3) := by decide +kernel
theorem dX9_moved_27 : decode cX9_moved 27 = .ok (.aload_n 0, 1) := by decide +kernel
theorem dX9_moved_28 : decode cX9_moved 28 = .ok (.getfield 35, 3) := by decide +kernel
theorem dX9_moved_31 : decode cX9_moved 31 = .ok (.iload_n 1, 1) := by decide +kernel
theorem dX9_moved_32 : decode cX9_moved 32 = .ok (.iaload, 1) := by decide +kernel
theorem dX9_moved_33 : decode cX9_moved 33 = .ok (.goto 8, 3) := by decide +kernel
theorem dX9_moved_36 : decode cX9_moved 36 = .ok (.aload_n 0, 1) := by decide +kernel
theorem dX9_moved_37 : decode cX9_moved 37 = .ok (.iconst 2, 1) := by decide +kernel
theorem dX9_moved_38 : decode cX9_moved 38 = .ok (.invokevirtual 79, 3) := by decide +kernel
theorem dX9_moved_41 : decode cX9_moved 41 = .ok (.ireturn, 1) := by decide +kernel
theorem dX9_winning_0 : decode cX9_winning 0 = .ok (.aload_n 0, 1) := by decide +kernel
theorem dX9_winning_1 : decode cX9_winning 1 = .ok (.invokevirtual 191, 3) := by decide +kernel
theorem dX9_winning_4 : decode cX9_winning 4 = .ok (.istore_n 1, 1) := by decide +kernel
theorem dX9_winning_5 : decode cX9_winning 5 = .ok (.iconst 0, 1) := by decide +kernel
theorem dX9_winning_6 : decode cX9_winning 6 = .ok (.istore_n 2, 1) := by decide +kernel
theorem dX9_winning_7 : decode cX9_winning 7 = .ok (.iconst 0, 1) := by decide +kernel
theorem dX9_winning_8 : decode cX9_winning 8 = .ok (.istore_n 3, 1) := by decide +kernel
theorem dX9_winning_9 : decode cX9_winning 9 = .ok (.iload_n 3, 1) := by decide +kernel
theorem dX9_winning_10 : decode cX9_winning 10 = .ok (.aload_n 0, 1) := by decide +kernel
theorem dX9_winning_11 : decode cX9_winning 11 = .ok (.getfield 72, 3) := by decide +kernel
theorem dX9_winning_14 : decode cX9_winning 14 = .ok (.if_icmp .ge 35, 3) := by decide +kernel
theorem dX9_winning_17 : decode cX9_winning 17 = .ok (.iload_n 2, 1) := by decide +kernel
theorem dX9_winning_18 : decode cX9_winning 18 = .ok (.iload_n 1, 1) := by decide +kernel
theorem dX9_winning_19 : decode cX9_winning 19 = .ok (.iload_n 3, 1) := by decide +kernel
theorem dX9_winning_20 : decode cX9_winning 20 = .ok (.invokestatic 114, 3) := by decide +kernel
theorem dX9_winning_23 : decode cX9_winning 23 = .ok (.ifCond .eq 17, 3) := by decide +kernel
theorem dX9_winning_26 : decode cX9_winning 26 = .ok (.aload_n 0, 1) := by decide +kernel
theorem dX9_winning_27 : decode cX9_winning 27 = .ok (.iload_n 3, 1) := by decide +kernel
theorem dX9_winning_28 : decode cX9_winning 28 = .ok (.invokevirtual 223, 3) := by decide +kernel
theorem dX9_winning_31 : decode cX9_winning 31 = .ok (.ifCond .eq 9, 3) := by decide +kernel
theorem dX9_winning_34 : decode cX9_winning 34 = .ok (.iconst 1, 1) := by decide +kernel
theorem dX9_winning_35 : decode cX9_winning 35 = .ok (.iload_n 3, 1) := by decide +kernel
theorem dX9_winning_36 : decode cX9_winning 36 = .ok (.ishl, 1) := by decide +kernel
theorem dX9_winning_37 : decode cX9_winning 37 = .ok (.goto 4, 3) := by decide +kernel
theorem dX9_winning_40 : decode cX9_winning 40 = .ok (.iconst 0, 1) := by decide +kernel
theorem dX9_winning_41 : decode cX9_winning 41 = .ok (.ior, 1) := by decide +kernel
theorem dX9_winning_42 : decode cX9_winning 42 = .ok (.istore_n 2, 1) := by decide +kernel
theorem dX9_winning_43 : decode cX9_winning 43 = .ok (.iinc 3 1, 3) := by decide +kernel
theorem dX9_winning_46 : decode cX9_winning 46 = .ok (.goto (-37), 3) := by decide +kernel
theorem dX9_winning_49 : decode cX9_winning 49 = .ok (.iload_n 2, 1) := by decide +kernel
theorem dX9_winning_50 : decode cX9_winning 50 = .ok (.ireturn, 1) := by decide +kernel
theorem dX9_moves_0 : decode cX9_moves 0 = .ok (.iload_n 1, 1) := by decide +kernel
theorem dX9_moves_1 : decode cX9_moves 1 = .ok (.iconst 0, 1) := by decide +kernel
theorem dX9_moves_2 : decode cX9_moves 2 = .ok (.iconst 1, 1) := by decide +kernel
theorem dX9_moves_3 : decode cX9_moves 3 = .ok (.invokestatic 68, 3) := by decide +kernel
theorem dX9_moves_6 : decode cX9_moves 6 = .ok (.ifCond .ne 9, 3) := by decide +kernel
theorem dX9_moves_9 : decode cX9_moves 9 = .ok (.aload_n 0, 1) := by decide +kernel
theorem dX9_moves_10 : decode cX9_moves 10 = .ok (.iconst 1, 1) := by decide +kernel
theorem dX9_moves_11 : decode cX9_moves 11 = .ok (.invokevirtual 79, 3) := by decide +kernel
theorem dX9_moves_14 : decode cX9_moves 14 = .ok (.ireturn, 1) := by decide +kernel
theorem dX9_moves_15 : decode cX9_moves 15 = .ok (.aload_n 0, 1) := by decide +kernel
theorem dX9_moves_16 : decode cX9_moves 16 = .ok (.getfield 75, 3) := by decide +kernel
theorem dX9_moves_19 : decode cX9_moves 19 = .ok (.ifCond .ne 9, 3) := by decide +kernel
theorem dX9_moves_22 : decode cX9_moves 22 = .ok (.aload_n 0, 1) := by decide +kernel
theorem dX9_moves_23 : decode cX9_moves 23 = .ok (.iconst 3, 1) := by decide +kernel
theorem dX9_moves_24 : decode cX9_moves 24 = .ok (.invokevirtual 79, 3) := by decide +kernel
theorem dX9_moves_27 : decode cX9_moves 27 = .ok (.ireturn, 1) := by decide +kernel
theorem dX9_moves_28 : decode cX9_moves 28 = .ok (.iload_n 1, 1) := by decide +kernel
theorem dX9_moves_29 : decode cX9_moves 29 = .ok (.ifCond .ne 10, 3) := by decide +kernel
theorem dX9_moves_32 : decode cX9_moves 32 = .ok (.aload_n 0, 1) := by decide +kernel
theorem dX9_moves_33 : decode cX9_moves 33 = .ok (.invokevirtual 191, 3) := by decide +kernel
theorem dX9_moves_36 : decode cX9_moves 36 = .ok (.goto 7, 3) := by decide +kernel
theorem dX9_moves_39 : decode cX9_moves 39 = .ok (.aload_n 0, 1) := by decide +kernel
theorem dX9_moves_40 : decode cX9_moves 40 = .ok (.invokevirtual 226, 3) := by decide +kernel
theorem dX9_moves_43 : decode cX9_moves 43 = .ok (.ireturn, 1) := by decide +kernel
theorem dX9_worth_0 : decode cX9_worth 0 = .ok (.iload_n 1, 1) := by decide +kernel
theorem dX9_worth_1 : decode cX9_worth 1 = .ok (.iconst 0, 1) := by decide +kernel
theorem dX9_worth_2 : decode cX9_worth 2 = .ok (.iconst 1, 1) := by decide +kernel
theorem dX9_worth_3 : decode cX9_worth 3 = .ok (.invokestatic 68, 3) := by decide +kernel
theorem dX9_worth_6 : decode cX9_worth 6 = .ok (.ifCond .ne 9, 3) := by decide +kernel
theorem dX9_worth_9 : decode cX9_worth 9 = .ok (.aload_n 0, 1) := by decide +kernel
theorem dX9_worth_10 : decode cX9_worth 10 = .ok (.iconst 1, 1) := by decide +kernel
theorem dX9_worth_11 : decode cX9_worth 11 = .ok (.invokevirtual 79, 3) := by decide +kernel
theorem dX9_worth_14 : decode cX9_worth 14 = .ok (.ireturn, 1) := by decide +kernel
theorem dX9_worth_15 : decode cX9_worth 15 = .ok (.aload_n 0, 1) := by decide +kernel
theorem dX9_worth_16 : decode cX9_worth 16 = .ok (.getfield 75, 3) := by decide +kernel
theorem dX9_worth_19 : decode cX9_worth 19 = .ok (.ifCond .ne 9, 3) := by decide +kernel
theorem dX9_worth_22 : decode cX9_worth 22 = .ok (.aload_n 0, 1) := by decide +kernel
theorem dX9_worth_23 : decode cX9_worth 23 = .ok (.iconst 3, 1) := by decide +kernel
theorem dX9_worth_24 : decode cX9_worth 24 = .ok (.invokevirtual 79, 3) := by decide +kernel
theorem dX9_worth_27 : decode cX9_worth 27 = .ok (.ireturn, 1) := by decide +kernel
theorem dX9_worth_28 : decode cX9_worth 28 = .ok (.iload_n 1, 1) := by decide +kernel
theorem dX9_worth_29 : decode cX9_worth 29 = .ok (.iconst 1, 1) := by decide +kernel
theorem dX9_worth_30 : decode cX9_worth 30 = .ok (.if_icmp .ne 17, 3) := by decide +kernel
theorem dX9_worth_33 : decode cX9_worth 33 = .ok (.aload_n 0, 1) := by decide +kernel
theorem dX9_worth_34 : decode cX9_worth 34 = .ok (.getfield 150, 3) := by decide +kernel
theorem dX9_worth_37 : decode cX9_worth 37 = .ok (.iconst 4, 1) := by decide +kernel
theorem dX9_worth_38 : decode cX9_worth 38 = .ok (.if_icmp .ne 9, 3) := by decide +kernel
theorem dX9_worth_41 : decode cX9_worth 41 = .ok (.aload_n 0, 1) := by decide +kernel
theorem dX9_worth_42 : decode cX9_worth 42 = .ok (.iconst 5, 1) := by decide +kernel
theorem dX9_worth_43 : decode cX9_worth 43 = .ok (.invokevirtual 79, 3) := by decide +kernel
theorem dX9_worth_46 : decode cX9_worth 46 = .ok (.ireturn, 1) := by decide +kernel
theorem dX9_worth_47 : decode cX9_worth 47 = .ok (.aload_n 0, 1) := by decide +kernel
theorem dX9_worth_48 : decode cX9_worth 48 = .ok (.invokevirtual 170, 3) := by decide +kernel
theorem dX9_worth_51 : decode cX9_worth 51 = .ok (.iload_n 1, 1) := by decide +kernel
theorem dX9_worth_52 : decode cX9_worth 52 = .ok (.ifCond .ne 18, 3) := by decide +kernel
theorem dX9_worth_55 : decode cX9_worth 55 = .ok (.aload_n 0, 1) := by decide +kernel
theorem dX9_worth_56 : decode cX9_worth 56 = .ok (.aload_n 0, 1) := by decide +kernel
theorem dX9_worth_57 : decode cX9_worth 57 = .ok (.getfield 182, 3) := by decide +kernel
theorem dX9_worth_60 : decode cX9_worth 60 = .ok (.aload_n 0, 1) := by decide +kernel
theorem dX9_worth_61 : decode cX9_worth 61 = .ok (.invokevirtual 185, 3) := by decide +kernel
theorem dX9_worth_64 : decode cX9_worth 64 = .ok (.invokevirtual 229, 3) := by decide +kernel
theorem dX9_worth_67 : decode cX9_worth 67 = .ok (.goto 15, 3) := by decide +kernel
theorem dX9_worth_70 : decode cX9_worth 70 = .ok (.aload_n 0, 1) := by decide +kernel
theorem dX9_worth_71 : decode cX9_worth 71 = .ok (.aload_n 0, 1) := by decide +kernel
theorem dX9_worth_72 : decode cX9_worth 72 = .ok (.getfield 182, 3) := by decide +kernel
theorem dX9_worth_75 : decode cX9_worth 75 = .ok (.aload_n 0, 1) := by decide +kernel
theorem dX9_worth_76 : decode cX9_worth 76 = .ok (.invokevirtual 185, 3) := by decide +kernel
theorem dX9_worth_79 : decode cX9_worth 79 = .ok (.invokevirtual 173, 3) := by decide +kernel
theorem dX9_worth_82 : decode cX9_worth 82 = .ok (.ireturn, 1) := by decide +kernel
theorem dX9_reaches_0 : decode cX9_reaches 0 = .ok (.sipush 4096, 3) := by decide +kernel
theorem dX9_reaches_3 : decode cX9_reaches 3 = .ok (.iload_n 1, 1) := by decide +kernel
theorem dX9_reaches_4 : decode cX9_reaches 4 = .ok (.imul, 1) := by decide +kernel
theorem dX9_reaches_5 : decode cX9_reaches 5 = .ok (.iload_n 2, 1) := by decide +kernel
theorem dX9_reaches_6 : decode cX9_reaches 6 = .ok (.iadd, 1) := by decide +kernel
theorem dX9_reaches_7 : decode cX9_reaches 7 = .ok (.istore_n 3, 1) := by decide +kernel
theorem dX9_reaches_8 : decode cX9_reaches 8 = .ok (.aload_n 0, 1) := by decide +kernel
theorem dX9_reaches_9 : decode cX9_reaches 9 = .ok (.getfield 48, 3) := by decide +kernel
theorem dX9_reaches_12 : decode cX9_reaches 12 = .ok (.iload_n 3, 1) := by decide +kernel
theorem dX9_reaches_13 : decode cX9_reaches 13 = .ok (.baload, 1) := by decide +kernel
theorem dX9_reaches_14 : decode cX9_reaches 14 = .ok (.ifCond .eq 5, 3) := by decide +kernel
theorem dX9_reaches_17 : decode cX9_reaches 17 = .ok (.iconst 0, 1) := by decide +kernel
theorem dX9_reaches_18 : decode cX9_reaches 18 = .ok (.ireturn, 1) := by decide +kernel
theorem dX9_reaches_19 : decode cX9_reaches 19 = .ok (.aload_n 0, 1) := by decide +kernel
theorem dX9_reaches_20 : decode cX9_reaches 20 = .ok (.getfield 48, 3) := by decide +kernel
theorem dX9_reaches_23 : decode cX9_reaches 23 = .ok (.iload_n 3, 1) := by decide +kernel
theorem dX9_reaches_24 : decode cX9_reaches 24 = .ok (.iconst 1, 1) := by decide +kernel
theorem dX9_reaches_25 : decode cX9_reaches 25 = .ok (.bastore, 1) := by decide +kernel
theorem dX9_reaches_26 : decode cX9_reaches 26 = .ok (.iconst 0, 1) := by decide +kernel
theorem dX9_reaches_27 : decode cX9_reaches 27 = .ok (.istore 4, 2) := by decide +kernel
theorem dX9_reaches_29 : decode cX9_reaches 29 = .ok (.iconst 0, 1) := by decide +kernel
theorem dX9_reaches_30 : decode cX9_reaches 30 = .ok (.istore 5, 2) := by decide +kernel
theorem dX9_reaches_32 : decode cX9_reaches 32 = .ok (.iload 5, 2) := by decide +kernel
theorem dX9_reaches_34 : decode cX9_reaches 34 = .ok (.aload_n 0, 1) := by decide +kernel
theorem dX9_reaches_35 : decode cX9_reaches 35 = .ok (.getfield 72, 3) := by decide +kernel
theorem dX9_reaches_38 : decode cX9_reaches 38 = .ok (.if_icmp .ge 53, 3) := by decide +kernel
theorem dX9_reaches_41 : decode cX9_reaches 41 = .ok (.aload_n 0, 1) := by decide +kernel
theorem dX9_reaches_42 : decode cX9_reaches 42 = .ok (.iload 5, 2) := by decide +kernel
theorem dX9_reaches_44 : decode cX9_reaches 44 = .ok (.iload_n 1, 1) := by decide +kernel
theorem dX9_reaches_45 : decode cX9_reaches 45 = .ok (.iload_n 2, 1) := by decide +kernel
theorem dX9_reaches_46 : decode cX9_reaches 46 = .ok (.invokevirtual 160, 3) := by decide +kernel
theorem dX9_reaches_49 : decode cX9_reaches 49 = .ok (.ifCond .eq 36, 3) := by decide +kernel
theorem dX9_reaches_52 : decode cX9_reaches 52 = .ok (.aload_n 0, 1) := by decide +kernel
theorem dX9_reaches_53 : decode cX9_reaches 53 = .ok (.iload 5, 2) := by decide +kernel
theorem dX9_reaches_55 : decode cX9_reaches 55 = .ok (.iload_n 1, 1) := by decide +kernel
theorem dX9_reaches_56 : decode cX9_reaches 56 = .ok (.invokevirtual 101, 3) := by decide +kernel
theorem dX9_reaches_59 : decode cX9_reaches 59 = .ok (.istore 6, 2) := by decide +kernel
theorem dX9_reaches_61 : decode cX9_reaches 61 = .ok (.iload 4, 2) := by decide +kernel
theorem dX9_reaches_63 : decode cX9_reaches 63 = .ok (.iconst 1, 1) := by decide +kernel
theorem dX9_reaches_64 : decode cX9_reaches 64 = .ok (.iload 6, 2) := by decide +kernel
theorem dX9_reaches_66 : decode cX9_reaches 66 = .ok (.ishl, 1) := by decide +kernel
theorem dX9_reaches_67 : decode cX9_reaches 67 = .ok (.aload_n 0, 1) := by decide +kernel
theorem dX9_reaches_68 : decode cX9_reaches 68 = .ok (.iload 6, 2) := by decide +kernel
theorem dX9_reaches_70 : decode cX9_reaches 70 = .ok (.aload_n 0, 1) := by decide +kernel
theorem dX9_reaches_71 : decode cX9_reaches 71 = .ok (.iload 5, 2) := by decide +kernel
theorem dX9_reaches_73 : decode cX9_reaches 73 = .ok (.iload_n 1, 1) := by decide +kernel
theorem dX9_reaches_74 : decode cX9_reaches 74 = .ok (.iload_n 2, 1) := by decide +kernel
theorem dX9_reaches_75 : decode cX9_reaches 75 = .ok (.invokevirtual 163, 3) := by decide +kernel
theorem dX9_reaches_78 : decode cX9_reaches 78 = .ok (.invokevirtual 232, 3) := by decide +kernel
theorem dX9_reaches_81 : decode cX9_reaches 81 = .ok (.ior, 1) := by decide +kernel
theorem dX9_reaches_82 : decode cX9_reaches 82 = .ok (.ior, 1) := by decide +kernel
theorem dX9_reaches_83 : decode cX9_reaches 83 = .ok (.istore 4, 2) := by decide +kernel
theorem dX9_reaches_85 : decode cX9_reaches 85 = .ok (.iinc 5 1, 3) := by decide +kernel
theorem dX9_reaches_88 : decode cX9_reaches 88 = .ok (.goto (-56), 3) := by decide +kernel
theorem dX9_reaches_91 : decode cX9_reaches 91 = .ok (.iload 4, 2) := by decide +kernel
theorem dX9_reaches_93 : decode cX9_reaches 93 = .ok (.ireturn, 1) := by decide +kernel
theorem dX9_reach_0 : decode cX9_reach 0 = .ok (.aload_n 0, 1) := by decide +kernel
theorem dX9_reach_1 : decode cX9_reach 1 = .ok (.getfield 75, 3) := by decide +kernel
theorem dX9_reach_4 : decode cX9_reach 4 = .ok (.ifCond .ne 9, 3) := by decide +kernel
theorem dX9_reach_7 : decode cX9_reach 7 = .ok (.aload_n 0, 1) := by decide +kernel
theorem dX9_reach_8 : decode cX9_reach 8 = .ok (.iconst 3, 1) := by decide +kernel
theorem dX9_reach_9 : decode cX9_reach 9 = .ok (.invokevirtual 79, 3) := by decide +kernel
theorem dX9_reach_12 : decode cX9_reach 12 = .ok (.ireturn, 1) := by decide +kernel
theorem dX9_reach_13 : decode cX9_reach 13 = .ok (.iconst 0, 1) := by decide +kernel
theorem dX9_reach_14 : decode cX9_reach 14 = .ok (.istore_n 1, 1) := by decide +kernel
theorem dX9_reach_15 : decode cX9_reach 15 = .ok (.iload_n 1, 1) := by decide +kernel
theorem dX9_reach_16 : decode cX9_reach 16 = .ok (.ldc 38, 2) := by decide +kernel
theorem dX9_reach_18 : decode cX9_reach 18 = .ok (.if_icmp .ge 16, 3) := by decide +kernel
theorem dX9_reach_21 : decode cX9_reach 21 = .ok (.aload_n 0, 1) := by decide +kernel
theorem dX9_reach_22 : decode cX9_reach 22 = .ok (.getfield 48, 3) := by decide +kernel
theorem dX9_reach_25 : decode cX9_reach 25 = .ok (.iload_n 1, 1) := by decide +kernel
theorem dX9_reach_26 : decode cX9_reach 26 = .ok (.iconst 0, 1) := by decide +kernel
theorem dX9_reach_27 : decode cX9_reach 27 = .ok (.bastore, 1) := by decide +kernel
theorem dX9_reach_28 : decode cX9_reach 28 = .ok (.iinc 1 1, 3) := by decide +kernel
theorem dX9_reach_31 : decode cX9_reach 31 = .ok (.goto (-16), 3) := by decide +kernel
theorem dX9_reach_34 : decode cX9_reach 34 = .ok (.aload_n 0, 1) := by decide +kernel
theorem dX9_reach_35 : decode cX9_reach 35 = .ok (.aload_n 0, 1) := by decide +kernel
theorem dX9_reach_36 : decode cX9_reach 36 = .ok (.getfield 182, 3) := by decide +kernel
theorem dX9_reach_39 : decode cX9_reach 39 = .ok (.aload_n 0, 1) := by decide +kernel
theorem dX9_reach_40 : decode cX9_reach 40 = .ok (.invokevirtual 185, 3) := by decide +kernel
theorem dX9_reach_43 : decode cX9_reach 43 = .ok (.invokevirtual 232, 3) := by decide +kernel
theorem dX9_reach_46 : decode cX9_reach 46 = .ok (.ireturn, 1) := by decide +kernel
theorem dX9_starts_0 : decode cX9_starts 0 = .ok (.iload_n 1, 1) := by decide +kernel
theorem dX9_starts_1 : decode cX9_starts 1 = .ok (.iconst 0, 1) := by decide +kernel
theorem dX9_starts_2 : decode cX9_starts 2 = .ok (.iconst 4, 1) := by decide +kernel
theorem dX9_starts_3 : decode cX9_starts 3 = .ok (.invokestatic 68, 3) := by decide +kernel
theorem dX9_starts_6 : decode cX9_starts 6 = .ok (.ifCond .ne 9, 3) := by decide +kernel
theorem dX9_starts_9 : decode cX9_starts 9 = .ok (.aload_n 0, 1) := by decide +kernel
theorem dX9_starts_10 : decode cX9_starts 10 = .ok (.iconst 1, 1) := by decide +kernel
theorem dX9_starts_11 : decode cX9_starts 11 = .ok (.invokevirtual 79, 3) := by decide +kernel
theorem dX9_starts_14 : decode cX9_starts 14 = .ok (.ireturn, 1) := by decide +kernel
theorem dX9_starts_15 : decode cX9_starts 15 = .ok (.aload_n 0, 1) := by decide +kernel
theorem dX9_starts_16 : decode cX9_starts 16 = .ok (.getfield 150, 3) := by decide +kernel
theorem dX9_starts_19 : decode cX9_starts 19 = .ok (.istore_n 2, 1) := by decide +kernel
theorem dX9_starts_20 : decode cX9_starts 20 = .ok (.aload_n 0, 1) := by decide +kernel
theorem dX9_starts_21 : decode cX9_starts 21 = .ok (.iload_n 1, 1) := by decide +kernel
theorem dX9_starts_22 : decode cX9_starts 22 = .ok (.putfield 150, 3) := by decide +kernel
theorem dX9_starts_25 : decode cX9_starts 25 = .ok (.iconst 0, 1) := by decide +kernel
theorem dX9_starts_26 : decode cX9_starts 26 = .ok (.istore_n 3, 1) := by decide +kernel
theorem dX9_starts_27 : decode cX9_starts 27 = .ok (.iconst 0, 1) := by decide +kernel
theorem dX9_starts_28 : decode cX9_starts 28 = .ok (.istore 4, 2) := by decide +kernel
theorem dX9_starts_30 : decode cX9_starts 30 = .ok (.iload 4, 2) := by decide +kernel
theorem dX9_starts_32 : decode cX9_starts 32 = .ok (.aload_n 0, 1) := by decide +kernel
theorem dX9_starts_33 : decode cX9_starts 33 = .ok (.getfield 13, 3) := by decide +kernel
theorem dX9_starts_36 : decode cX9_starts 36 = .ok (.if_icmp .ge 44, 3) := by decide +kernel
theorem dX9_starts_39 : decode cX9_starts 39 = .ok (.iload_n 3, 1) := by decide +kernel
theorem dX9_starts_40 : decode cX9_starts 40 = .ok (.aload_n 0, 1) := by decide +kernel
theorem dX9_starts_41 : decode cX9_starts 41 = .ok (.iload 4, 2) := by decide +kernel
theorem dX9_starts_43 : decode cX9_starts 43 = .ok (.aload_n 0, 1) := by decide +kernel
theorem dX9_starts_44 : decode cX9_starts 44 = .ok (.invokevirtual 157, 3) := by decide +kernel
theorem dX9_starts_47 : decode cX9_starts 47 = .ok (.ifCond .eq 7, 3) := by decide +kernel
theorem dX9_starts_50 : decode cX9_starts 50 = .ok (.iconst 0, 1) := by decide +kernel
theorem dX9_starts_51 : decode cX9_starts 51 = .ok (.goto 7, 3) := by decide +kernel
theorem dX9_starts_54 : decode cX9_starts 54 = .ok (.iconst 1, 1) := by decide +kernel
theorem dX9_starts_55 : decode cX9_starts 55 = .ok (.iload 4, 2) := by decide +kernel
theorem dX9_starts_57 : decode cX9_starts 57 = .ok (.ishl, 1) := by decide +kernel
theorem dX9_starts_58 : decode cX9_starts 58 = .ok (.invokevirtual 194, 3) := by decide +kernel
theorem dX9_starts_61 : decode cX9_starts 61 = .ok (.ifCond .eq 10, 3) := by decide +kernel
theorem dX9_starts_64 : decode cX9_starts 64 = .ok (.iconst 1, 1) := by decide +kernel
theorem dX9_starts_65 : decode cX9_starts 65 = .ok (.iload 4, 2) := by decide +kernel
theorem dX9_starts_67 : decode cX9_starts 67 = .ok (.ishl, 1) := by decide +kernel
theorem dX9_starts_68 : decode cX9_starts 68 = .ok (.goto 4, 3) := by decide +kernel
theorem dX9_starts_71 : decode cX9_starts 71 = .ok (.iconst 0, 1) := by decide +kernel
theorem dX9_starts_72 : decode cX9_starts 72 = .ok (.ior, 1) := by decide +kernel
theorem dX9_starts_73 : decode cX9_starts 73 = .ok (.istore_n 3, 1) := by decide +kernel
theorem dX9_starts_74 : decode cX9_starts 74 = .ok (.iinc 4 1, 3) := by decide +kernel
theorem dX9_starts_77 : decode cX9_starts 77 = .ok (.goto (-47), 3) := by decide +kernel
theorem dX9_starts_80 : decode cX9_starts 80 = .ok (.aload_n 0, 1) := by decide +kernel
theorem dX9_starts_81 : decode cX9_starts 81 = .ok (.iload_n 2, 1) := by decide +kernel
theorem dX9_starts_82 : decode cX9_starts 82 = .ok (.putfield 150, 3) := by decide +kernel
theorem dX9_starts_85 : decode cX9_starts 85 = .ok (.iload_n 3, 1) := by decide +kernel
theorem dX9_starts_86 : decode cX9_starts 86 = .ok (.ireturn, 1) := by decide +kernel
theorem dX9_isCode_0 : decode cX9_isCode 0 = .ok (.iload_n 0, 1) := by decide +kernel
theorem dX9_isCode_1 : decode cX9_isCode 1 = .ok (.iconst 1, 1) := by decide +kernel
theorem dX9_isCode_2 : decode cX9_isCode 2 = .ok (.sipush 9999, 3) := by decide +kernel
theorem dX9_isCode_5 : decode cX9_isCode 5 = .ok (.invokestatic 68, 3) := by decide +kernel
theorem dX9_isCode_8 : decode cX9_isCode 8 = .ok (.istore_n 1, 1) := by decide +kernel
theorem dX9_isCode_9 : decode cX9_isCode 9 = .ok (.iload_n 0, 1) := by decide +kernel
theorem dX9_isCode_10 : decode cX9_isCode 10 = .ok (.istore_n 2, 1) := by decide +kernel
theorem dX9_isCode_11 : decode cX9_isCode 11 = .ok (.iload_n 2, 1) := by decide +kernel
theorem dX9_isCode_12 : decode cX9_isCode 12 = .ok (.ifCond .le 26, 3) := by decide +kernel
theorem dX9_isCode_15 : decode cX9_isCode 15 = .ok (.iload_n 1, 1) := by decide +kernel
theorem dX9_isCode_16 : decode cX9_isCode 16 = .ok (.ifCond .eq 22, 3) := by decide +kernel
theorem dX9_isCode_19 : decode cX9_isCode 19 = .ok (.iload_n 2, 1) := by decide +kernel
theorem dX9_isCode_20 : decode cX9_isCode 20 = .ok (.bipush 10, 2) := by decide +kernel
theorem dX9_isCode_22 : decode cX9_isCode 22 = .ok (.irem, 1) := by decide +kernel
theorem dX9_isCode_23 : decode cX9_isCode 23 = .ok (.iconst 1, 1) := by decide +kernel
theorem dX9_isCode_24 : decode cX9_isCode 24 = .ok (.bipush 7, 2) := by decide +kernel
theorem dX9_isCode_26 : decode cX9_isCode 26 = .ok (.invokestatic 68, 3) := by decide +kernel
theorem dX9_isCode_29 : decode cX9_isCode 29 = .ok (.istore_n 1, 1) := by decide +kernel
theorem dX9_isCode_30 : decode cX9_isCode 30 = .ok (.iload_n 2, 1) := by decide +kernel
theorem dX9_isCode_31 : decode cX9_isCode 31 = .ok (.bipush 10, 2) := by decide +kernel
theorem dX9_isCode_33 : decode cX9_isCode 33 = .ok (.idiv, 1) := by decide +kernel
theorem dX9_isCode_34 : decode cX9_isCode 34 = .ok (.istore_n 2, 1) := by decide +kernel
theorem dX9_isCode_35 : decode cX9_isCode 35 = .ok (.goto (-24), 3) := by decide +kernel
theorem dX9_isCode_38 : decode cX9_isCode 38 = .ok (.iload_n 1, 1) := by decide +kernel
theorem dX9_isCode_39 : decode cX9_isCode 39 = .ok (.ireturn, 1) := by decide +kernel
theorem dX9_least_0 : decode cX9_least 0 = .ok (.iconst 0, 1) := by decide +kernel
theorem dX9_least_1 : decode cX9_least 1 = .ok (.istore_n 1, 1) := by decide +kernel
theorem dX9_least_2 : decode cX9_least 2 = .ok (.iload_n 1, 1) := by decide +kernel
theorem dX9_least_3 : decode cX9_least 3 = .ok (.bipush 12, 2) := by decide +kernel
theorem dX9_least_5 : decode cX9_least 5 = .ok (.if_icmp .ge 17, 3) := by decide +kernel
theorem dX9_least_8 : decode cX9_least 8 = .ok (.iload_n 0, 1) := by decide +kernel
theorem dX9_least_9 : decode cX9_least 9 = .ok (.iload_n 1, 1) := by decide +kernel
theorem dX9_least_10 : decode cX9_least 10 = .ok (.invokestatic 114, 3) := by decide +kernel
theorem dX9_least_13 : decode cX9_least 13 = .ok (.ifCond .ne 9, 3) := by decide +kernel
theorem dX9_least_16 : decode cX9_least 16 = .ok (.iinc 1 1, 3) := by decide +kernel
theorem dX9_least_19 : decode cX9_least 19 = .ok (.goto (-17), 3) := by decide +kernel
theorem dX9_least_22 : decode cX9_least 22 = .ok (.iload_n 1, 1) := by decide +kernel
theorem dX9_least_23 : decode cX9_least 23 = .ok (.bipush 12, 2) := by decide +kernel
theorem dX9_least_25 : decode cX9_least 25 = .ok (.if_icmp .ge 7, 3) := by decide +kernel
theorem dX9_least_28 : decode cX9_least 28 = .ok (.iload_n 1, 1) := by decide +kernel
theorem dX9_least_29 : decode cX9_least 29 = .ok (.goto 4, 3) := by decide +kernel
theorem dX9_least_32 : decode cX9_least 32 = .ok (.iconst (-1), 1) := by decide +kernel
theorem dX9_least_33 : decode cX9_least 33 = .ok (.ireturn, 1) := by decide +kernel
theorem dX9_greatest_0 : decode cX9_greatest 0 = .ok (.bipush 11, 2) := by decide +kernel
theorem dX9_greatest_2 : decode cX9_greatest 2 = .ok (.istore_n 1, 1) := by decide +kernel
theorem dX9_greatest_3 : decode cX9_greatest 3 = .ok (.iload_n 1, 1) := by decide +kernel
theorem dX9_greatest_4 : decode cX9_greatest 4 = .ok (.ifCond .lt 17, 3) := by decide +kernel
theorem dX9_greatest_7 : decode cX9_greatest 7 = .ok (.iload_n 0, 1) := by decide +kernel
theorem dX9_greatest_8 : decode cX9_greatest 8 = .ok (.iload_n 1, 1) := by decide +kernel
theorem dX9_greatest_9 : decode cX9_greatest 9 = .ok (.invokestatic 114, 3) := by decide +kernel
theorem dX9_greatest_12 : decode cX9_greatest 12 = .ok (.ifCond .ne 9, 3) := by decide +kernel
theorem dX9_greatest_15 : decode cX9_greatest 15 = .ok (.iinc 1 (-1), 3) := by decide +kernel
theorem dX9_greatest_18 : decode cX9_greatest 18 = .ok (.goto (-15), 3) := by decide +kernel
theorem dX9_greatest_21 : decode cX9_greatest 21 = .ok (.iload_n 1, 1) := by decide +kernel
theorem dX9_greatest_22 : decode cX9_greatest 22 = .ok (.ireturn, 1) := by decide +kernel
theorem dX9_drawn_0 : decode cX9_drawn 0 = .ok (.iload_n 1, 1) := by decide +kernel
theorem dX9_drawn_1 : decode cX9_drawn 1 = .ok (.ifCond .ne 5, 3) := by decide +kernel
theorem dX9_drawn_4 : decode cX9_drawn 4 = .ok (.iconst (-1), 1) := by decide +kernel
theorem dX9_drawn_5 : decode cX9_drawn 5 = .ok (.ireturn, 1) := by decide +kernel
theorem dX9_drawn_6 : decode cX9_drawn 6 = .ok (.aload_n 0, 1) := by decide +kernel
theorem dX9_drawn_7 : decode cX9_drawn 7 = .ok (.aload_n 0, 1) := by decide +kernel
theorem dX9_drawn_8 : decode cX9_drawn 8 = .ok (.getfield 32, 3) := by decide +kernel
theorem dX9_drawn_11 : decode cX9_drawn 11 = .ok (.ldc 235, 2) := by decide +kernel
theorem dX9_drawn_13 : decode cX9_drawn 13 = .ok (.imul, 1) := by decide +kernel
theorem dX9_drawn_14 : decode cX9_drawn 14 = .ok (.sipush 12345, 3) := by decide +kernel
theorem dX9_drawn_17 : decode cX9_drawn 17 = .ok (.iadd, 1) := by decide +kernel
theorem dX9_drawn_18 : decode cX9_drawn 18 = .ok (.putfield 32, 3) := by decide +kernel
theorem dX9_drawn_21 : decode cX9_drawn 21 = .ok (.aload_n 0, 1) := by decide +kernel
theorem dX9_drawn_22 : decode cX9_drawn 22 = .ok (.getfield 32, 3) := by decide +kernel
theorem dX9_drawn_25 : decode cX9_drawn 25 = .ok (.bipush 8, 2) := by decide +kernel
theorem dX9_drawn_27 : decode cX9_drawn 27 = .ok (.iushr, 1) := by decide +kernel
theorem dX9_drawn_28 : decode cX9_drawn 28 = .ok (.iload_n 1, 1) := by decide +kernel
theorem dX9_drawn_29 : decode cX9_drawn 29 = .ok (.invokestatic 123, 3) := by decide +kernel
theorem dX9_drawn_32 : decode cX9_drawn 32 = .ok (.irem, 1) := by decide +kernel
theorem dX9_drawn_33 : decode cX9_drawn 33 = .ok (.istore_n 2, 1) := by decide +kernel
theorem dX9_drawn_34 : decode cX9_drawn 34 = .ok (.iload_n 1, 1) := by decide +kernel
theorem dX9_drawn_35 : decode cX9_drawn 35 = .ok (.invokestatic 236, 3) := by decide +kernel
theorem dX9_drawn_38 : decode cX9_drawn 38 = .ok (.istore_n 3, 1) := by decide +kernel
theorem dX9_drawn_39 : decode cX9_drawn 39 = .ok (.iload_n 1, 1) := by decide +kernel
theorem dX9_drawn_40 : decode cX9_drawn 40 = .ok (.istore 4, 2) := by decide +kernel
theorem dX9_drawn_42 : decode cX9_drawn 42 = .ok (.iconst 0, 1) := by decide +kernel
theorem dX9_drawn_43 : decode cX9_drawn 43 = .ok (.istore 5, 2) := by decide +kernel
theorem dX9_drawn_45 : decode cX9_drawn 45 = .ok (.iload 5, 2) := by decide +kernel
theorem dX9_drawn_47 : decode cX9_drawn 47 = .ok (.iload_n 2, 1) := by decide +kernel
theorem dX9_drawn_48 : decode cX9_drawn 48 = .ok (.if_icmp .ge 24, 3) := by decide +kernel
theorem dX9_drawn_51 : decode cX9_drawn 51 = .ok (.iload 4, 2) := by decide +kernel
theorem dX9_drawn_53 : decode cX9_drawn 53 = .ok (.iload 4, 2) := by decide +kernel
theorem dX9_drawn_55 : decode cX9_drawn 55 = .ok (.iconst 1, 1) := by decide +kernel
theorem dX9_drawn_56 : decode cX9_drawn 56 = .ok (.isub, 1) := by decide +kernel
theorem dX9_drawn_57 : decode cX9_drawn 57 = .ok (.iand, 1) := by decide +kernel
theorem dX9_drawn_58 : decode cX9_drawn 58 = .ok (.istore 4, 2) := by decide +kernel
theorem dX9_drawn_60 : decode cX9_drawn 60 = .ok (.iload 4, 2) := by decide +kernel
theorem dX9_drawn_62 : decode cX9_drawn 62 = .ok (.invokestatic 236, 3) := by decide +kernel
theorem dX9_drawn_65 : decode cX9_drawn 65 = .ok (.istore_n 3, 1) := by decide +kernel
theorem dX9_drawn_66 : decode cX9_drawn 66 = .ok (.iinc 5 1, 3) := by decide +kernel
theorem dX9_drawn_69 : decode cX9_drawn 69 = .ok (.goto (-24), 3) := by decide +kernel
theorem dX9_drawn_72 : decode cX9_drawn 72 = .ok (.iload_n 3, 1) := by decide +kernel
theorem dX9_drawn_73 : decode cX9_drawn 73 = .ok (.ireturn, 1) := by decide +kernel
theorem dX9_bestBy_0 : decode cX9_bestBy 0 = .ok (.iconst (-1), 1) := by decide +kernel
theorem dX9_bestBy_1 : decode cX9_bestBy 1 = .ok (.istore_n 3, 1) := by decide +kernel
theorem dX9_bestBy_2 : decode cX9_bestBy 2 = .ok (.iconst 0, 1) := by decide +kernel
theorem dX9_bestBy_3 : decode cX9_bestBy 3 = .ok (.istore 4, 2) := by decide +kernel
theorem dX9_bestBy_5 : decode cX9_bestBy 5 = .ok (.iconst 0, 1) := by decide +kernel
theorem dX9_bestBy_6 : decode cX9_bestBy 6 = .ok (.istore 5, 2) := by decide +kernel
theorem dX9_bestBy_8 : decode cX9_bestBy 8 = .ok (.iload 5, 2) := by decide +kernel
theorem dX9_bestBy_10 : decode cX9_bestBy 10 = .ok (.aload_n 0, 1) := by decide +kernel
theorem dX9_bestBy_11 : decode cX9_bestBy 11 = .ok (.getfield 72, 3) := by decide +kernel
theorem dX9_bestBy_14 : decode cX9_bestBy 14 = .ok (.if_icmp .ge 97, 3) := by decide +kernel
theorem dX9_bestBy_17 : decode cX9_bestBy 17 = .ok (.iload_n 1, 1) := by decide +kernel
theorem dX9_bestBy_18 : decode cX9_bestBy 18 = .ok (.iload 5, 2) := by decide +kernel
theorem dX9_bestBy_20 : decode cX9_bestBy 20 = .ok (.invokestatic 114, 3) := by decide +kernel
theorem dX9_bestBy_23 : decode cX9_bestBy 23 = .ok (.ifCond .ne 6, 3) := by decide +kernel
theorem dX9_bestBy_26 : decode cX9_bestBy 26 = .ok (.goto 79, 3) := by decide +kernel
theorem dX9_bestBy_29 : decode cX9_bestBy 29 = .ok (.aload_n 0, 1) := by decide +kernel
theorem dX9_bestBy_30 : decode cX9_bestBy 30 = .ok (.iload 5, 2) := by decide +kernel
theorem dX9_bestBy_32 : decode cX9_bestBy 32 = .ok (.aload_n 0, 1) := by decide +kernel
theorem dX9_bestBy_33 : decode cX9_bestBy 33 = .ok (.getfield 182, 3) := by decide +kernel
theorem dX9_bestBy_36 : decode cX9_bestBy 36 = .ok (.invokevirtual 101, 3) := by decide +kernel
theorem dX9_bestBy_39 : decode cX9_bestBy 39 = .ok (.istore 6, 2) := by decide +kernel
theorem dX9_bestBy_41 : decode cX9_bestBy 41 = .ok (.aload_n 0, 1) := by decide +kernel
theorem dX9_bestBy_42 : decode cX9_bestBy 42 = .ok (.iload 5, 2) := by decide +kernel
theorem dX9_bestBy_44 : decode cX9_bestBy 44 = .ok (.aload_n 0, 1) := by decide +kernel
theorem dX9_bestBy_45 : decode cX9_bestBy 45 = .ok (.getfield 182, 3) := by decide +kernel
theorem dX9_bestBy_48 : decode cX9_bestBy 48 = .ok (.aload_n 0, 1) := by decide +kernel
theorem dX9_bestBy_49 : decode cX9_bestBy 49 = .ok (.invokevirtual 185, 3) := by decide +kernel
theorem dX9_bestBy_52 : decode cX9_bestBy 52 = .ok (.invokevirtual 163, 3) := by decide +kernel
theorem dX9_bestBy_55 : decode cX9_bestBy 55 = .ok (.istore 7, 2) := by decide +kernel
theorem dX9_bestBy_57 : decode cX9_bestBy 57 = .ok (.iload_n 2, 1) := by decide +kernel
theorem dX9_bestBy_58 : decode cX9_bestBy 58 = .ok (.ifCond .eq 18, 3) := by decide +kernel
theorem dX9_bestBy_61 : decode cX9_bestBy 61 = .ok (.aload_n 0, 1) := by decide +kernel
theorem dX9_bestBy_62 : decode cX9_bestBy 62 = .ok (.iload 6, 2) := by decide +kernel
theorem dX9_bestBy_64 : decode cX9_bestBy 64 = .ok (.iload 7, 2) := by decide +kernel
theorem dX9_bestBy_66 : decode cX9_bestBy 66 = .ok (.invokevirtual 188, 3) := by decide +kernel
theorem dX9_bestBy_69 : decode cX9_bestBy 69 = .ok (.invokestatic 123, 3) := by decide +kernel
theorem dX9_bestBy_72 : decode cX9_bestBy 72 = .ok (.ineg, 1) := by decide +kernel
theorem dX9_bestBy_73 : decode cX9_bestBy 73 = .ok (.goto 11, 3) := by decide +kernel
theorem dX9_bestBy_76 : decode cX9_bestBy 76 = .ok (.aload_n 0, 1) := by decide +kernel
theorem dX9_bestBy_77 : decode cX9_bestBy 77 = .ok (.iload 6, 2) := by decide +kernel
theorem dX9_bestBy_79 : decode cX9_bestBy 79 = .ok (.iload 7, 2) := by decide +kernel
theorem dX9_bestBy_81 : decode cX9_bestBy 81 = .ok (.invokevirtual 229, 3) := by decide +kernel
theorem dX9_bestBy_84 : decode cX9_bestBy 84 = .ok (.istore 8, 2) := by decide +kernel
theorem dX9_bestBy_86 : decode cX9_bestBy 86 = .ok (.iload_n 3, 1) := by decide +kernel
theorem dX9_bestBy_87 : decode cX9_bestBy 87 = .ok (.iconst (-1), 1) := by decide +kernel
theorem dX9_bestBy_88 : decode cX9_bestBy 88 = .ok (.if_icmp .eq 10, 3) := by decide +kernel
theorem dX9_bestBy_91 : decode cX9_bestBy 91 = .ok (.iload 8, 2) := by decide +kernel
theorem dX9_bestBy_93 : decode cX9_bestBy 93 = .ok (.iload 4, 2) := by decide +kernel
theorem dX9_bestBy_95 : decode cX9_bestBy 95 = .ok (.if_icmp .le 10, 3) := by decide +kernel
theorem dX9_bestBy_98 : decode cX9_bestBy 98 = .ok (.iload 5, 2) := by decide +kernel
theorem dX9_bestBy_100 : decode cX9_bestBy 100 = .ok (.istore_n 3, 1) := by decide +kernel
theorem dX9_bestBy_101 : decode cX9_bestBy 101 = .ok (.iload 8, 2) := by decide +kernel
theorem dX9_bestBy_103 : decode cX9_bestBy 103 = .ok (.istore 4, 2) := by decide +kernel
theorem dX9_bestBy_105 : decode cX9_bestBy 105 = .ok (.iinc 5 1, 3) := by decide +kernel
theorem dX9_bestBy_108 : decode cX9_bestBy 108 = .ok (.goto (-100), 3) := by decide +kernel
theorem dX9_bestBy_111 : decode cX9_bestBy 111 = .ok (.iload_n 3, 1) := by decide +kernel
theorem dX9_bestBy_112 : decode cX9_bestBy 112 = .ok (.ireturn, 1) := by decide +kernel
theorem dX9_paired_0 : decode cX9_paired 0 = .ok (.aload_n 0, 1) := by decide +kernel
theorem dX9_paired_1 : decode cX9_paired 1 = .ok (.aload_n 0, 1) := by decide +kernel
theorem dX9_paired_2 : decode cX9_paired 2 = .ok (.invokevirtual 129, 3) := by decide +kernel
theorem dX9_paired_5 : decode cX9_paired 5 = .ok (.aload_n 0, 1) := by decide +kernel
theorem dX9_paired_6 : decode cX9_paired 6 = .ok (.getfield 179, 3) := by decide +kernel
theorem dX9_paired_9 : decode cX9_paired 9 = .ok (.iconst (-1), 1) := by decide +kernel
theorem dX9_paired_10 : decode cX9_paired 10 = .ok (.ixor, 1) := by decide +kernel
theorem dX9_paired_11 : decode cX9_paired 11 = .ok (.iand, 1) := by decide +kernel
theorem dX9_paired_12 : decode cX9_paired 12 = .ok (.iconst 1, 1) := by decide +kernel
theorem dX9_paired_13 : decode cX9_paired 13 = .ok (.aload_n 0, 1) := by decide +kernel
theorem dX9_paired_14 : decode cX9_paired 14 = .ok (.getfield 182, 3) := by decide +kernel
theorem dX9_paired_17 : decode cX9_paired 17 = .ok (.ishl, 1) := by decide +kernel
theorem dX9_paired_18 : decode cX9_paired 18 = .ok (.ior, 1) := by decide +kernel
theorem dX9_paired_19 : decode cX9_paired 19 = .ok (.invokevirtual 133, 3) := by decide +kernel
theorem dX9_paired_22 : decode cX9_paired 22 = .ok (.istore_n 2, 1) := by decide +kernel
theorem dX9_paired_23 : decode cX9_paired 23 = .ok (.iconst 0, 1) := by decide +kernel
theorem dX9_paired_24 : decode cX9_paired 24 = .ok (.istore_n 3, 1) := by decide +kernel
theorem dX9_paired_25 : decode cX9_paired 25 = .ok (.iload_n 3, 1) := by decide +kernel
theorem dX9_paired_26 : decode cX9_paired 26 = .ok (.aload_n 0, 1) := by decide +kernel
theorem dX9_paired_27 : decode cX9_paired 27 = .ok (.getfield 72, 3) := by decide +kernel
theorem dX9_paired_30 : decode cX9_paired 30 = .ok (.if_icmp .ge 43, 3) := by decide +kernel
theorem dX9_paired_33 : decode cX9_paired 33 = .ok (.iload_n 2, 1) := by decide +kernel
theorem dX9_paired_34 : decode cX9_paired 34 = .ok (.iload_n 3, 1) := by decide +kernel
theorem dX9_paired_35 : decode cX9_paired 35 = .ok (.invokestatic 114, 3) := by decide +kernel
theorem dX9_paired_38 : decode cX9_paired 38 = .ok (.ifCond .eq 29, 3) := by decide +kernel
theorem dX9_paired_41 : decode cX9_paired 41 = .ok (.aload_n 0, 1) := by decide +kernel
theorem dX9_paired_42 : decode cX9_paired 42 = .ok (.iload_n 3, 1) := by decide +kernel
theorem dX9_paired_43 : decode cX9_paired 43 = .ok (.aload_n 0, 1) := by decide +kernel
theorem dX9_paired_44 : decode cX9_paired 44 = .ok (.getfield 182, 3) := by decide +kernel
theorem dX9_paired_47 : decode cX9_paired 47 = .ok (.invokevirtual 97, 3) := by decide +kernel
theorem dX9_paired_50 : decode cX9_paired 50 = .ok (.ifCond .eq 17, 3) := by decide +kernel
theorem dX9_paired_53 : decode cX9_paired 53 = .ok (.iload_n 1, 1) := by decide +kernel
theorem dX9_paired_54 : decode cX9_paired 54 = .ok (.iload_n 3, 1) := by decide +kernel
theorem dX9_paired_55 : decode cX9_paired 55 = .ok (.invokestatic 114, 3) := by decide +kernel
theorem dX9_paired_58 : decode cX9_paired 58 = .ok (.ifCond .eq 7, 3) := by decide +kernel
theorem dX9_paired_61 : decode cX9_paired 61 = .ok (.iload_n 3, 1) := by decide +kernel
theorem dX9_paired_62 : decode cX9_paired 62 = .ok (.goto 4, 3) := by decide +kernel
theorem dX9_paired_65 : decode cX9_paired 65 = .ok (.iconst (-1), 1) := by decide +kernel
theorem dX9_paired_66 : decode cX9_paired 66 = .ok (.ireturn, 1) := by decide +kernel
theorem dX9_paired_67 : decode cX9_paired 67 = .ok (.iinc 3 1, 3) := by decide +kernel
theorem dX9_paired_70 : decode cX9_paired 70 = .ok (.goto (-45), 3) := by decide +kernel
theorem dX9_paired_73 : decode cX9_paired 73 = .ok (.iconst (-1), 1) := by decide +kernel
theorem dX9_paired_74 : decode cX9_paired 74 = .ok (.ireturn, 1) := by decide +kernel
theorem dX9_simple_0 : decode cX9_simple 0 = .ok (.aload_n 0, 1) := by decide +kernel
theorem dX9_simple_1 : decode cX9_simple 1 = .ok (.invokevirtual 191, 3) := by decide +kernel
theorem dX9_simple_4 : decode cX9_simple 4 = .ok (.istore_n 2, 1) := by decide +kernel
theorem dX9_simple_5 : decode cX9_simple 5 = .ok (.iload_n 1, 1) := by decide +kernel
theorem dX9_simple_6 : decode cX9_simple 6 = .ok (.tableswitch 75 1 6 #[38, 43, 48, 56, 62, 68], 38) := by decide +kernel
theorem dX9_simple_44 : decode cX9_simple 44 = .ok (.iload_n 2, 1) := by decide +kernel
theorem dX9_simple_45 : decode cX9_simple 45 = .ok (.invokestatic 236, 3) := by decide +kernel
theorem dX9_simple_48 : decode cX9_simple 48 = .ok (.ireturn, 1) := by decide +kernel
theorem dX9_simple_49 : decode cX9_simple 49 = .ok (.iload_n 2, 1) := by decide +kernel
theorem dX9_simple_50 : decode cX9_simple 50 = .ok (.invokestatic 239, 3) := by decide +kernel
theorem dX9_simple_53 : decode cX9_simple 53 = .ok (.ireturn, 1) := by decide +kernel
theorem dX9_simple_54 : decode cX9_simple 54 = .ok (.aload_n 0, 1) := by decide +kernel
theorem dX9_simple_55 : decode cX9_simple 55 = .ok (.invokevirtual 226, 3) := by decide +kernel
theorem dX9_simple_58 : decode cX9_simple 58 = .ok (.invokestatic 236, 3) := by decide +kernel
theorem dX9_simple_61 : decode cX9_simple 61 = .ok (.ireturn, 1) := by decide +kernel
theorem dX9_simple_62 : decode cX9_simple 62 = .ok (.aload_n 0, 1) := by decide +kernel
theorem dX9_simple_63 : decode cX9_simple 63 = .ok (.iload_n 2, 1) := by decide +kernel
theorem dX9_simple_64 : decode cX9_simple 64 = .ok (.invokevirtual 242, 3) := by decide +kernel
theorem dX9_simple_67 : decode cX9_simple 67 = .ok (.ireturn, 1) := by decide +kernel
theorem dX9_simple_68 : decode cX9_simple 68 = .ok (.aload_n 0, 1) := by decide +kernel
theorem dX9_simple_69 : decode cX9_simple 69 = .ok (.iload_n 2, 1) := by decide +kernel
theorem dX9_simple_70 : decode cX9_simple 70 = .ok (.invokevirtual 245, 3) := by decide +kernel
theorem dX9_simple_73 : decode cX9_simple 73 = .ok (.ireturn, 1) := by decide +kernel
theorem dX9_simple_74 : decode cX9_simple 74 = .ok (.aload_n 0, 1) := by decide +kernel
theorem dX9_simple_75 : decode cX9_simple 75 = .ok (.iload_n 2, 1) := by decide +kernel
theorem dX9_simple_76 : decode cX9_simple 76 = .ok (.iconst 1, 1) := by decide +kernel
theorem dX9_simple_77 : decode cX9_simple 77 = .ok (.invokevirtual 248, 3) := by decide +kernel
theorem dX9_simple_80 : decode cX9_simple 80 = .ok (.ireturn, 1) := by decide +kernel
theorem dX9_simple_81 : decode cX9_simple 81 = .ok (.aload_n 0, 1) := by decide +kernel
theorem dX9_simple_82 : decode cX9_simple 82 = .ok (.iload_n 2, 1) := by decide +kernel
theorem dX9_simple_83 : decode cX9_simple 83 = .ok (.iconst 0, 1) := by decide +kernel
theorem dX9_simple_84 : decode cX9_simple 84 = .ok (.invokevirtual 248, 3) := by decide +kernel
theorem dX9_simple_87 : decode cX9_simple 87 = .ok (.ireturn, 1) := by decide +kernel
theorem dX9_planned_0 : decode cX9_planned 0 = .ok (.iconst (-1), 1) := by decide +kernel
theorem dX9_planned_1 : decode cX9_planned 1 = .ok (.istore_n 2, 1) := by decide +kernel
theorem dX9_planned_2 : decode cX9_planned 2 = .ok (.iload_n 1, 1) := by decide +kernel
theorem dX9_planned_3 : decode cX9_planned 3 = .ok (.istore_n 3, 1) := by decide +kernel
theorem dX9_planned_4 : decode cX9_planned 4 = .ok (.iload_n 3, 1) := by decide +kernel
theorem dX9_planned_5 : decode cX9_planned 5 = .ok (.ifCond .le 25, 3) := by decide +kernel
theorem dX9_planned_8 : decode cX9_planned 8 = .ok (.iload_n 2, 1) := by decide +kernel
theorem dX9_planned_9 : decode cX9_planned 9 = .ok (.iconst (-1), 1) := by decide +kernel
theorem dX9_planned_10 : decode cX9_planned 10 = .ok (.if_icmp .ne 20, 3) := by decide +kernel
theorem dX9_planned_13 : decode cX9_planned 13 = .ok (.aload_n 0, 1) := by decide +kernel
theorem dX9_planned_14 : decode cX9_planned 14 = .ok (.iload_n 3, 1) := by decide +kernel
theorem dX9_planned_15 : decode cX9_planned 15 = .ok (.bipush 10, 2) := by decide +kernel
theorem dX9_planned_17 : decode cX9_planned 17 = .ok (.irem, 1) := by decide +kernel
theorem dX9_planned_18 : decode cX9_planned 18 = .ok (.invokevirtual 252, 3) := by decide +kernel
theorem dX9_planned_21 : decode cX9_planned 21 = .ok (.istore_n 2, 1) := by decide +kernel
theorem dX9_planned_22 : decode cX9_planned 22 = .ok (.iload_n 3, 1) := by decide +kernel
theorem dX9_planned_23 : decode cX9_planned 23 = .ok (.bipush 10, 2) := by decide +kernel
theorem dX9_planned_25 : decode cX9_planned 25 = .ok (.idiv, 1) := by decide +kernel
theorem dX9_planned_26 : decode cX9_planned 26 = .ok (.istore_n 3, 1) := by decide +kernel
theorem dX9_planned_27 : decode cX9_planned 27 = .ok (.goto (-23), 3) := by decide +kernel
theorem dX9_planned_30 : decode cX9_planned 30 = .ok (.iload_n 2, 1) := by decide +kernel
theorem dX9_planned_31 : decode cX9_planned 31 = .ok (.ireturn, 1) := by decide +kernel
theorem dX9_tells_0 : decode cX9_tells 0 = .ok (.iload_n 1, 1) := by decide +kernel
theorem dX9_tells_1 : decode cX9_tells 1 = .ok (.invokestatic 255, 3) := by decide +kernel
theorem dX9_tells_4 : decode cX9_tells 4 = .ok (.ifCond .ne 9, 3) := by decide +kernel
theorem dX9_tells_7 : decode cX9_tells 7 = .ok (.aload_n 0, 1) := by decide +kernel
theorem dX9_tells_8 : decode cX9_tells 8 = .ok (.iconst 1, 1) := by decide +kernel
theorem dX9_tells_9 : decode cX9_tells 9 = .ok (.invokevirtual 79, 3) := by decide +kernel
theorem dX9_tells_12 : decode cX9_tells 12 = .ok (.ireturn, 1) := by decide +kernel
theorem dX9_tells_13 : decode cX9_tells 13 = .ok (.aload_n 0, 1) := by decide +kernel
theorem dX9_tells_14 : decode cX9_tells 14 = .ok (.getfield 75, 3) := by decide +kernel
theorem dX9_tells_17 : decode cX9_tells 17 = .ok (.ifCond .ne 9, 3) := by decide +kernel
theorem dX9_tells_20 : decode cX9_tells 20 = .ok (.aload_n 0, 1) := by decide +kernel
theorem dX9_tells_21 : decode cX9_tells 21 = .ok (.iconst 3, 1) := by decide +kernel
theorem dX9_tells_22 : decode cX9_tells 22 = .ok (.invokevirtual 79, 3) := by decide +kernel
theorem dX9_tells_25 : decode cX9_tells 25 = .ok (.ireturn, 1) := by decide +kernel
theorem dX9_tells_26 : decode cX9_tells 26 = .ok (.aload_n 0, 1) := by decide +kernel
theorem dX9_tells_27 : decode cX9_tells 27 = .ok (.iload_n 1, 1) := by decide +kernel
theorem dX9_tells_28 : decode cX9_tells 28 = .ok (.invokevirtual 258, 3) := by decide +kernel
theorem dX9_tells_31 : decode cX9_tells 31 = .ok (.istore_n 2, 1) := by decide +kernel
theorem dX9_tells_32 : decode cX9_tells 32 = .ok (.iload_n 2, 1) := by decide +kernel
theorem dX9_tells_33 : decode cX9_tells 33 = .ok (.iconst (-1), 1) := by decide +kernel
theorem dX9_tells_34 : decode cX9_tells 34 = .ok (.if_icmp .ne 11, 3) := by decide +kernel
theorem dX9_tells_37 : decode cX9_tells 37 = .ok (.aload_n 0, 1) := by decide +kernel
theorem dX9_tells_38 : decode cX9_tells 38 = .ok (.iconst 2, 1) := by decide +kernel
theorem dX9_tells_39 : decode cX9_tells 39 = .ok (.invokevirtual 79, 3) := by decide +kernel
theorem dX9_tells_42 : decode cX9_tells 42 = .ok (.goto 4, 3) := by decide +kernel
theorem dX9_tells_45 : decode cX9_tells 45 = .ok (.iload_n 2, 1) := by decide +kernel
theorem dX9_tells_46 : decode cX9_tells 46 = .ok (.ireturn, 1) := by decide +kernel
theorem dX9_plays_0 : decode cX9_plays 0 = .ok (.iconst 0, 1) := by decide +kernel
theorem dX9_plays_1 : decode cX9_plays 1 = .ok (.istore 4, 2) := by decide +kernel
theorem dX9_plays_3 : decode cX9_plays 3 = .ok (.iload 4, 2) := by decide +kernel
theorem dX9_plays_5 : decode cX9_plays 5 = .ok (.iload_n 3, 1) := by decide +kernel
theorem dX9_plays_6 : decode cX9_plays 6 = .ok (.if_icmp .ge 56, 3) := by decide +kernel
theorem dX9_plays_9 : decode cX9_plays 9 = .ok (.aload_n 0, 1) := by decide +kernel
theorem dX9_plays_10 : decode cX9_plays 10 = .ok (.invokevirtual 207, 3) := by decide +kernel
theorem dX9_plays_13 : decode cX9_plays 13 = .ok (.ifCond .ne 49, 3) := by decide +kernel
theorem dX9_plays_16 : decode cX9_plays 16 = .ok (.aload_n 0, 1) := by decide +kernel
theorem dX9_plays_17 : decode cX9_plays 17 = .ok (.aload_n 0, 1) := by decide +kernel
theorem dX9_plays_18 : decode cX9_plays 18 = .ok (.invokevirtual 217, 3) := by decide +kernel
theorem dX9_plays_21 : decode cX9_plays 21 = .ok (.ifCond .ne 7, 3) := by decide +kernel
theorem dX9_plays_24 : decode cX9_plays 24 = .ok (.iload_n 1, 1) := by decide +kernel
theorem dX9_plays_25 : decode cX9_plays 25 = .ok (.goto 4, 3) := by decide +kernel
theorem dX9_plays_28 : decode cX9_plays 28 = .ok (.iload_n 2, 1) := by decide +kernel
theorem dX9_plays_29 : decode cX9_plays 29 = .ok (.invokevirtual 258, 3) := by decide +kernel
theorem dX9_plays_32 : decode cX9_plays 32 = .ok (.istore 5, 2) := by decide +kernel
theorem dX9_plays_34 : decode cX9_plays 34 = .ok (.aload_n 0, 1) := by decide +kernel
theorem dX9_plays_35 : decode cX9_plays 35 = .ok (.iload 5, 2) := by decide +kernel
theorem dX9_plays_37 : decode cX9_plays 37 = .ok (.iconst (-1), 1) := by decide +kernel
theorem dX9_plays_38 : decode cX9_plays 38 = .ok (.if_icmp .ne 13, 3) := by decide +kernel
theorem dX9_plays_41 : decode cX9_plays 41 = .ok (.aload_n 0, 1) := by decide +kernel
theorem dX9_plays_42 : decode cX9_plays 42 = .ok (.invokevirtual 191, 3) := by decide +kernel
theorem dX9_plays_45 : decode cX9_plays 45 = .ok (.invokestatic 236, 3) := by decide +kernel
theorem dX9_plays_48 : decode cX9_plays 48 = .ok (.goto 5, 3) := by decide +kernel
theorem dX9_plays_51 : decode cX9_plays 51 = .ok (.iload 5, 2) := by decide +kernel
theorem dX9_plays_53 : decode cX9_plays 53 = .ok (.invokevirtual 210, 3) := by decide +kernel
theorem dX9_plays_56 : decode cX9_plays 56 = .ok (.iinc 4 1, 3) := by decide +kernel
theorem dX9_plays_59 : decode cX9_plays 59 = .ok (.goto (-56), 3) := by decide +kernel
theorem dX9_plays_62 : decode cX9_plays 62 = .ok (.iload 4, 2) := by decide +kernel
theorem dX9_plays_64 : decode cX9_plays 64 = .ok (.ireturn, 1) := by decide +kernel
theorem dX9_play_0 : decode cX9_play 0 = .ok (.iload_n 1, 1) := by decide +kernel
theorem dX9_play_1 : decode cX9_play 1 = .ok (.invokestatic 255, 3) := by decide +kernel
theorem dX9_play_4 : decode cX9_play 4 = .ok (.ifCond .eq 20, 3) := by decide +kernel
theorem dX9_play_7 : decode cX9_play 7 = .ok (.iload_n 2, 1) := by decide +kernel
theorem dX9_play_8 : decode cX9_play 8 = .ok (.invokestatic 255, 3) := by decide +kernel
theorem dX9_play_11 : decode cX9_play 11 = .ok (.ifCond .eq 13, 3) := by decide +kernel
theorem dX9_play_14 : decode cX9_play 14 = .ok (.iload_n 3, 1) := by decide +kernel
theorem dX9_play_15 : decode cX9_play 15 = .ok (.iconst 1, 1) := by decide +kernel
theorem dX9_play_16 : decode cX9_play 16 = .ok (.bipush 20, 2) := by decide +kernel
theorem dX9_play_18 : decode cX9_play 18 = .ok (.invokestatic 68, 3) := by decide +kernel
theorem dX9_play_21 : decode cX9_play 21 = .ok (.ifCond .ne 9, 3) := by decide +kernel
theorem dX9_play_24 : decode cX9_play 24 = .ok (.aload_n 0, 1) := by decide +kernel
theorem dX9_play_25 : decode cX9_play 25 = .ok (.iconst 1, 1) := by decide +kernel
theorem dX9_play_26 : decode cX9_play 26 = .ok (.invokevirtual 79, 3) := by decide +kernel
theorem dX9_play_29 : decode cX9_play 29 = .ok (.ireturn, 1) := by decide +kernel
theorem dX9_play_30 : decode cX9_play 30 = .ok (.aload_n 0, 1) := by decide +kernel
theorem dX9_play_31 : decode cX9_play 31 = .ok (.getfield 75, 3) := by decide +kernel
theorem dX9_play_34 : decode cX9_play 34 = .ok (.ifCond .eq 13, 3) := by decide +kernel
theorem dX9_play_37 : decode cX9_play 37 = .ok (.aload_n 0, 1) := by decide +kernel
theorem dX9_play_38 : decode cX9_play 38 = .ok (.iload_n 1, 1) := by decide +kernel
theorem dX9_play_39 : decode cX9_play 39 = .ok (.iload_n 2, 1) := by decide +kernel
theorem dX9_play_40 : decode cX9_play 40 = .ok (.iload_n 3, 1) := by decide +kernel
theorem dX9_play_41 : decode cX9_play 41 = .ok (.invokevirtual 261, 3) := by decide +kernel
theorem dX9_play_44 : decode cX9_play 44 = .ok (.goto 8, 3) := by decide +kernel
theorem dX9_play_47 : decode cX9_play 47 = .ok (.aload_n 0, 1) := by decide +kernel
theorem dX9_play_48 : decode cX9_play 48 = .ok (.iconst 3, 1) := by decide +kernel
theorem dX9_play_49 : decode cX9_play 49 = .ok (.invokevirtual 79, 3) := by decide +kernel
theorem dX9_play_52 : decode cX9_play 52 = .ok (.ireturn, 1) := by decide +kernel
theorem dX9_fight_0 : decode cX9_fight 0 = .ok (.iload_n 1, 1) := by decide +kernel
theorem dX9_fight_1 : decode cX9_fight 1 = .ok (.invokestatic 255, 3) := by decide +kernel
theorem dX9_fight_4 : decode cX9_fight 4 = .ok (.ifCond .eq 19, 3) := by decide +kernel
theorem dX9_fight_7 : decode cX9_fight 7 = .ok (.iload_n 2, 1) := by decide +kernel
theorem dX9_fight_8 : decode cX9_fight 8 = .ok (.invokestatic 255, 3) := by decide +kernel
theorem dX9_fight_11 : decode cX9_fight 11 = .ok (.ifCond .eq 12, 3) := by decide +kernel
theorem dX9_fight_14 : decode cX9_fight 14 = .ok (.iload_n 3, 1) := by decide +kernel
theorem dX9_fight_15 : decode cX9_fight 15 = .ok (.iconst 0, 1) := by decide +kernel
theorem dX9_fight_16 : decode cX9_fight 16 = .ok (.iconst 1, 1) := by decide +kernel
theorem dX9_fight_17 : decode cX9_fight 17 = .ok (.invokestatic 68, 3) := by decide +kernel
theorem dX9_fight_20 : decode cX9_fight 20 = .ok (.ifCond .ne 9, 3) := by decide +kernel
theorem dX9_fight_23 : decode cX9_fight 23 = .ok (.aload_n 0, 1) := by decide +kernel
theorem dX9_fight_24 : decode cX9_fight 24 = .ok (.iconst 1, 1) := by decide +kernel
theorem dX9_fight_25 : decode cX9_fight 25 = .ok (.invokevirtual 79, 3) := by decide +kernel
theorem dX9_fight_28 : decode cX9_fight 28 = .ok (.ireturn, 1) := by decide +kernel
theorem dX9_fight_29 : decode cX9_fight 29 = .ok (.aload_n 0, 1) := by decide +kernel
theorem dX9_fight_30 : decode cX9_fight 30 = .ok (.getfield 75, 3) := by decide +kernel
theorem dX9_fight_33 : decode cX9_fight 33 = .ok (.ifCond .ne 9, 3) := by decide +kernel
theorem dX9_fight_36 : decode cX9_fight 36 = .ok (.aload_n 0, 1) := by decide +kernel
theorem dX9_fight_37 : decode cX9_fight 37 = .ok (.iconst 3, 1) := by decide +kernel
theorem dX9_fight_38 : decode cX9_fight 38 = .ok (.invokevirtual 79, 3) := by decide +kernel
theorem dX9_fight_41 : decode cX9_fight 41 = .ok (.ireturn, 1) := by decide +kernel
theorem dX9_fight_42 : decode cX9_fight 42 = .ok (.aload_n 0, 1) := by decide +kernel
theorem dX9_fight_43 : decode cX9_fight 43 = .ok (.getfield 200, 3) := by decide +kernel
theorem dX9_fight_46 : decode cX9_fight 46 = .ok (.istore 4, 2) := by decide +kernel
theorem dX9_fight_48 : decode cX9_fight 48 = .ok (.aload_n 0, 1) := by decide +kernel
theorem dX9_fight_49 : decode cX9_fight 49 = .ok (.getfield 32, 3) := by decide +kernel
theorem dX9_fight_52 : decode cX9_fight 52 = .ok (.istore 5, 2) := by decide +kernel
theorem dX9_fight_54 : decode cX9_fight 54 = .ok (.aload_n 0, 1) := by decide +kernel
theorem dX9_fight_55 : decode cX9_fight 55 = .ok (.iload_n 1, 1) := by decide +kernel
theorem dX9_fight_56 : decode cX9_fight 56 = .ok (.iload_n 2, 1) := by decide +kernel
theorem dX9_fight_57 : decode cX9_fight 57 = .ok (.bipush 13, 2) := by decide +kernel
theorem dX9_fight_59 : decode cX9_fight 59 = .ok (.invokevirtual 261, 3) := by decide +kernel
theorem dX9_fight_62 : decode cX9_fight 62 = .ok (.istore 6, 2) := by decide +kernel
theorem dX9_fight_64 : decode cX9_fight 64 = .ok (.aload_n 0, 1) := by decide +kernel
theorem dX9_fight_65 : decode cX9_fight 65 = .ok (.invokevirtual 220, 3) := by decide +kernel
theorem dX9_fight_68 : decode cX9_fight 68 = .ok (.istore 7, 2) := by decide +kernel
theorem dX9_fight_70 : decode cX9_fight 70 = .ok (.aload_n 0, 1) := by decide +kernel
theorem dX9_fight_71 : decode cX9_fight 71 = .ok (.getfield 200, 3) := by decide +kernel
theorem dX9_fight_74 : decode cX9_fight 74 = .ok (.iload 4, 2) := by decide +kernel
theorem dX9_fight_76 : decode cX9_fight 76 = .ok (.if_icmp .le 10, 3) := by decide +kernel
theorem dX9_fight_79 : decode cX9_fight 79 = .ok (.aload_n 0, 1) := by decide +kernel
theorem dX9_fight_80 : decode cX9_fight 80 = .ok (.invokevirtual 214, 3) := by decide +kernel
theorem dX9_fight_83 : decode cX9_fight 83 = .ok (.goto (-13), 3) := by decide +kernel
theorem dX9_fight_86 : decode cX9_fight 86 = .ok (.aload_n 0, 1) := by decide +kernel
theorem dX9_fight_87 : decode cX9_fight 87 = .ok (.iload 5, 2) := by decide +kernel
theorem dX9_fight_89 : decode cX9_fight 89 = .ok (.putfield 32, 3) := by decide +kernel
theorem dX9_fight_92 : decode cX9_fight 92 = .ok (.iload_n 3, 1) := by decide +kernel
theorem dX9_fight_93 : decode cX9_fight 93 = .ok (.ifCond .ne 8, 3) := by decide +kernel
theorem dX9_fight_96 : decode cX9_fight 96 = .ok (.iload 7, 2) := by decide +kernel
theorem dX9_fight_98 : decode cX9_fight 98 = .ok (.goto 5, 3) := by decide +kernel
theorem dX9_fight_101 : decode cX9_fight 101 = .ok (.iload 6, 2) := by decide +kernel
theorem dX9_fight_103 : decode cX9_fight 103 = .ok (.ireturn, 1) := by decide +kernel
theorem dX9_grows_0 : decode cX9_grows 0 = .ok (.aload_n 0, 1) := by decide +kernel
theorem dX9_grows_1 : decode cX9_grows 1 = .ok (.getfield 264, 3) := by decide +kernel
theorem dX9_grows_4 : decode cX9_grows 4 = .ok (.sipush 300, 3) := by decide +kernel
theorem dX9_grows_7 : decode cX9_grows 7 = .ok (.if_icmp .le 4, 3) := by decide +kernel
theorem dX9_grows_10 : decode cX9_grows 10 = .ok (.return_, 1) := by decide +kernel
theorem dX9_grows_11 : decode cX9_grows 11 = .ok (.aload_n 0, 1) := by decide +kernel
theorem dX9_grows_12 : decode cX9_grows 12 = .ok (.getfield 52, 3) := by decide +kernel
theorem dX9_grows_15 : decode cX9_grows 15 = .ok (.aload_n 0, 1) := by decide +kernel
theorem dX9_grows_16 : decode cX9_grows 16 = .ok (.getfield 264, 3) := by decide +kernel
theorem dX9_grows_19 : decode cX9_grows 19 = .ok (.iload 4, 2) := by decide +kernel
theorem dX9_grows_21 : decode cX9_grows 21 = .ok (.iastore, 1) := by decide +kernel
theorem dX9_grows_22 : decode cX9_grows 22 = .ok (.aload_n 0, 1) := by decide +kernel
theorem dX9_grows_23 : decode cX9_grows 23 = .ok (.dup, 1) := by decide +kernel
theorem dX9_grows_24 : decode cX9_grows 24 = .ok (.getfield 264, 3) := by decide +kernel
theorem dX9_grows_27 : decode cX9_grows 27 = .ok (.iconst 1, 1) := by decide +kernel
theorem dX9_grows_28 : decode cX9_grows 28 = .ok (.iadd, 1) := by decide +kernel
theorem dX9_grows_29 : decode cX9_grows 29 = .ok (.putfield 264, 3) := by decide +kernel
theorem dX9_grows_32 : decode cX9_grows 32 = .ok (.aload_n 0, 1) := by decide +kernel
theorem dX9_grows_33 : decode cX9_grows 33 = .ok (.iload 5, 2) := by decide +kernel
theorem dX9_grows_35 : decode cX9_grows 35 = .ok (.aload_n 0, 1) := by decide +kernel
theorem dX9_grows_36 : decode cX9_grows 36 = .ok (.getfield 267, 3) := by decide +kernel
theorem dX9_grows_39 : decode cX9_grows 39 = .ok (.if_icmp .le 8, 3) := by decide +kernel
theorem dX9_grows_42 : decode cX9_grows 42 = .ok (.iload 5, 2) := by decide +kernel
theorem dX9_grows_44 : decode cX9_grows 44 = .ok (.goto 7, 3) := by decide +kernel
theorem dX9_grows_47 : decode cX9_grows 47 = .ok (.aload_n 0, 1) := by decide +kernel
theorem dX9_grows_48 : decode cX9_grows 48 = .ok (.getfield 267, 3) := by decide +kernel
theorem dX9_grows_51 : decode cX9_grows 51 = .ok (.putfield 267, 3) := by decide +kernel
theorem dX9_grows_54 : decode cX9_grows 54 = .ok (.aload_n 0, 1) := by decide +kernel
theorem dX9_grows_55 : decode cX9_grows 55 = .ok (.iload_n 1, 1) := by decide +kernel
theorem dX9_grows_56 : decode cX9_grows 56 = .ok (.iload_n 2, 1) := by decide +kernel
theorem dX9_grows_57 : decode cX9_grows 57 = .ok (.invokevirtual 188, 3) := by decide +kernel
theorem dX9_grows_60 : decode cX9_grows 60 = .ok (.istore 6, 2) := by decide +kernel
theorem dX9_grows_62 : decode cX9_grows 62 = .ok (.aload_n 0, 1) := by decide +kernel
theorem dX9_grows_63 : decode cX9_grows 63 = .ok (.dup, 1) := by decide +kernel
theorem dX9_grows_64 : decode cX9_grows 64 = .ok (.getfield 270, 3) := by decide +kernel
theorem dX9_grows_67 : decode cX9_grows 67 = .ok (.iload 6, 2) := by decide +kernel
theorem dX9_grows_69 : decode cX9_grows 69 = .ok (.ifCond .ne 7, 3) := by decide +kernel
theorem dX9_grows_72 : decode cX9_grows 72 = .ok (.iconst 1, 1) := by decide +kernel
theorem dX9_grows_73 : decode cX9_grows 73 = .ok (.goto 4, 3) := by decide +kernel
theorem dX9_grows_76 : decode cX9_grows 76 = .ok (.iconst 0, 1) := by decide +kernel
theorem dX9_grows_77 : decode cX9_grows 77 = .ok (.iadd, 1) := by decide +kernel
theorem dX9_grows_78 : decode cX9_grows 78 = .ok (.putfield 270, 3) := by decide +kernel
theorem dX9_grows_81 : decode cX9_grows 81 = .ok (.iconst 0, 1) := by decide +kernel
theorem dX9_grows_82 : decode cX9_grows 82 = .ok (.istore 7, 2) := by decide +kernel
theorem dX9_grows_84 : decode cX9_grows 84 = .ok (.iload 7, 2) := by decide +kernel
theorem dX9_grows_86 : decode cX9_grows 86 = .ok (.aload_n 0, 1) := by decide +kernel
theorem dX9_grows_87 : decode cX9_grows 87 = .ok (.getfield 72, 3) := by decide +kernel
theorem dX9_grows_90 : decode cX9_grows 90 = .ok (.if_icmp .ge 90, 3) := by decide +kernel
theorem dX9_grows_93 : decode cX9_grows 93 = .ok (.iload 6, 2) := by decide +kernel
theorem dX9_grows_95 : decode cX9_grows 95 = .ok (.iload 7, 2) := by decide +kernel
theorem dX9_grows_97 : decode cX9_grows 97 = .ok (.invokestatic 114, 3) := by decide +kernel
theorem dX9_grows_100 : decode cX9_grows 100 = .ok (.ifCond .ne 6, 3) := by decide +kernel
theorem dX9_grows_103 : decode cX9_grows 103 = .ok (.goto 71, 3) := by decide +kernel
theorem dX9_grows_106 : decode cX9_grows 106 = .ok (.aload_n 0, 1) := by decide +kernel
theorem dX9_grows_107 : decode cX9_grows 107 = .ok (.iload 7, 2) := by decide +kernel
theorem dX9_grows_109 : decode cX9_grows 109 = .ok (.iload_n 1, 1) := by decide +kernel
theorem dX9_grows_110 : decode cX9_grows 110 = .ok (.invokevirtual 101, 3) := by decide +kernel
theorem dX9_grows_113 : decode cX9_grows 113 = .ok (.istore 8, 2) := by decide +kernel
theorem dX9_grows_115 : decode cX9_grows 115 = .ok (.aload_n 0, 1) := by decide +kernel
theorem dX9_grows_116 : decode cX9_grows 116 = .ok (.iload 7, 2) := by decide +kernel
theorem dX9_grows_118 : decode cX9_grows 118 = .ok (.iload_n 1, 1) := by decide +kernel
theorem dX9_grows_119 : decode cX9_grows 119 = .ok (.iload_n 2, 1) := by decide +kernel
theorem dX9_grows_120 : decode cX9_grows 120 = .ok (.invokevirtual 163, 3) := by decide +kernel
theorem dX9_grows_123 : decode cX9_grows 123 = .ok (.istore 9, 2) := by decide +kernel
theorem dX9_grows_125 : decode cX9_grows 125 = .ok (.iload_n 3, 1) := by decide +kernel
theorem dX9_grows_126 : decode cX9_grows 126 = .ok (.ifCond .ne 21, 3) := by decide +kernel
theorem dX9_grows_129 : decode cX9_grows 129 = .ok (.aload_n 0, 1) := by decide +kernel
theorem dX9_grows_130 : decode cX9_grows 130 = .ok (.iload 8, 2) := by decide +kernel
theorem dX9_grows_132 : decode cX9_grows 132 = .ok (.iload 9, 2) := by decide +kernel
theorem dX9_grows_134 : decode cX9_grows 134 = .ok (.iconst 1, 1) := by decide +kernel
theorem dX9_grows_135 : decode cX9_grows 135 = .ok (.iload 7, 2) := by decide +kernel
theorem dX9_grows_137 : decode cX9_grows 137 = .ok (.iload 5, 2) := by decide +kernel
theorem dX9_grows_139 : decode cX9_grows 139 = .ok (.iconst 1, 1) := by decide +kernel
theorem dX9_grows_140 : decode cX9_grows 140 = .ok (.iadd, 1) := by decide +kernel
theorem dX9_grows_141 : decode cX9_grows 141 = .ok (.invokevirtual 273, 3) := by decide +kernel
theorem dX9_grows_144 : decode cX9_grows 144 = .ok (.goto 30, 3) := by decide +kernel
theorem dX9_grows_147 : decode cX9_grows 147 = .ok (.aload_n 0, 1) := by decide +kernel
theorem dX9_grows_148 : decode cX9_grows 148 = .ok (.iload 8, 2) := by decide +kernel
theorem dX9_grows_150 : decode cX9_grows 150 = .ok (.iload 9, 2) := by decide +kernel
theorem dX9_grows_152 : decode cX9_grows 152 = .ok (.invokevirtual 194, 3) := by decide +kernel
theorem dX9_grows_155 : decode cX9_grows 155 = .ok (.ifCond .ne 19, 3) := by decide +kernel
theorem dX9_grows_158 : decode cX9_grows 158 = .ok (.aload_n 0, 1) := by decide +kernel
theorem dX9_grows_159 : decode cX9_grows 159 = .ok (.iload 8, 2) := by decide +kernel
theorem dX9_grows_161 : decode cX9_grows 161 = .ok (.iload 9, 2) := by decide +kernel
theorem dX9_grows_163 : decode cX9_grows 163 = .ok (.iconst 0, 1) := by decide +kernel
theorem dX9_grows_164 : decode cX9_grows 164 = .ok (.iload 7, 2) := by decide +kernel
theorem dX9_grows_166 : decode cX9_grows 166 = .ok (.iload 5, 2) := by decide +kernel
theorem dX9_grows_168 : decode cX9_grows 168 = .ok (.iconst 1, 1) := by decide +kernel
theorem dX9_grows_169 : decode cX9_grows 169 = .ok (.iadd, 1) := by decide +kernel
theorem dX9_grows_170 : decode cX9_grows 170 = .ok (.invokevirtual 273, 3) := by decide +kernel
theorem dX9_grows_173 : decode cX9_grows 173 = .ok (.return_, 1) := by decide +kernel
theorem dX9_grows_174 : decode cX9_grows 174 = .ok (.iinc 7 1, 3) := by decide +kernel
theorem dX9_grows_177 : decode cX9_grows 177 = .ok (.goto (-93), 3) := by decide +kernel
theorem dX9_grows_180 : decode cX9_grows 180 = .ok (.return_, 1) := by decide +kernel
theorem dX9_isGrown_0 : decode cX9_isGrown 0 = .ok (.aload_n 0, 1) := by decide +kernel
theorem dX9_isGrown_1 : decode cX9_isGrown 1 = .ok (.iconst 0, 1) := by decide +kernel
theorem dX9_isGrown_2 : decode cX9_isGrown 2 = .ok (.putfield 264, 3) := by decide +kernel
theorem dX9_isGrown_5 : decode cX9_isGrown 5 = .ok (.aload_n 0, 1) := by decide +kernel
theorem dX9_isGrown_6 : decode cX9_isGrown 6 = .ok (.iconst 0, 1) := by decide +kernel
theorem dX9_isGrown_7 : decode cX9_isGrown 7 = .ok (.putfield 270, 3) := by decide +kernel
theorem dX9_isGrown_10 : decode cX9_isGrown 10 = .ok (.aload_n 0, 1) := by decide +kernel
theorem dX9_isGrown_11 : decode cX9_isGrown 11 = .ok (.iconst 0, 1) := by decide +kernel
theorem dX9_isGrown_12 : decode cX9_isGrown 12 = .ok (.putfield 267, 3) := by decide +kernel
theorem dX9_isGrown_15 : decode cX9_isGrown 15 = .ok (.aload_n 0, 1) := by decide +kernel
theorem dX9_isGrown_16 : decode cX9_isGrown 16 = .ok (.aload_n 0, 1) := by decide +kernel
theorem dX9_isGrown_17 : decode cX9_isGrown 17 = .ok (.getfield 182, 3) := by decide +kernel
theorem dX9_isGrown_20 : decode cX9_isGrown 20 = .ok (.aload_n 0, 1) := by decide +kernel
theorem dX9_isGrown_21 : decode cX9_isGrown 21 = .ok (.invokevirtual 185, 3) := by decide +kernel
theorem dX9_isGrown_24 : decode cX9_isGrown 24 = .ok (.aload_n 0, 1) := by decide +kernel
theorem dX9_isGrown_25 : decode cX9_isGrown 25 = .ok (.aload_n 0, 1) := by decide +kernel
theorem dX9_isGrown_26 : decode cX9_isGrown 26 = .ok (.getfield 182, 3) := by decide +kernel
theorem dX9_isGrown_29 : decode cX9_isGrown 29 = .ok (.aload_n 0, 1) := by decide +kernel
theorem dX9_isGrown_30 : decode cX9_isGrown 30 = .ok (.invokevirtual 185, 3) := by decide +kernel
theorem dX9_isGrown_33 : decode cX9_isGrown 33 = .ok (.invokevirtual 194, 3) := by decide +kernel
theorem dX9_isGrown_36 : decode cX9_isGrown 36 = .ok (.iconst (-1), 1) := by decide +kernel
theorem dX9_isGrown_37 : decode cX9_isGrown 37 = .ok (.iconst 0, 1) := by decide +kernel
theorem dX9_isGrown_38 : decode cX9_isGrown 38 = .ok (.invokevirtual 273, 3) := by decide +kernel
theorem dX9_isGrown_41 : decode cX9_isGrown 41 = .ok (.aload_n 0, 1) := by decide +kernel
theorem dX9_isGrown_42 : decode cX9_isGrown 42 = .ok (.getfield 264, 3) := by decide +kernel
theorem dX9_isGrown_45 : decode cX9_isGrown 45 = .ok (.sipush 300, 3) := by decide +kernel
theorem dX9_isGrown_48 : decode cX9_isGrown 48 = .ok (.if_icmp .gt 7, 3) := by decide +kernel
theorem dX9_isGrown_51 : decode cX9_isGrown 51 = .ok (.iconst 1, 1) := by decide +kernel
theorem dX9_isGrown_52 : decode cX9_isGrown 52 = .ok (.goto 4, 3) := by decide +kernel
theorem dX9_isGrown_55 : decode cX9_isGrown 55 = .ok (.iconst 0, 1) := by decide +kernel
theorem dX9_isGrown_56 : decode cX9_isGrown 56 = .ok (.ireturn, 1) := by decide +kernel
theorem dX9_tree_0 : decode cX9_tree 0 = .ok (.iload_n 1, 1) := by decide +kernel
theorem dX9_tree_1 : decode cX9_tree 1 = .ok (.iconst 0, 1) := by decide +kernel
theorem dX9_tree_2 : decode cX9_tree 2 = .ok (.iconst 2, 1) := by decide +kernel
theorem dX9_tree_3 : decode cX9_tree 3 = .ok (.invokestatic 68, 3) := by decide +kernel
theorem dX9_tree_6 : decode cX9_tree 6 = .ok (.ifCond .ne 9, 3) := by decide +kernel
theorem dX9_tree_9 : decode cX9_tree 9 = .ok (.aload_n 0, 1) := by decide +kernel
theorem dX9_tree_10 : decode cX9_tree 10 = .ok (.iconst 1, 1) := by decide +kernel
theorem dX9_tree_11 : decode cX9_tree 11 = .ok (.invokevirtual 79, 3) := by decide +kernel
theorem dX9_tree_14 : decode cX9_tree 14 = .ok (.ireturn, 1) := by decide +kernel
theorem dX9_tree_15 : decode cX9_tree 15 = .ok (.aload_n 0, 1) := by decide +kernel
theorem dX9_tree_16 : decode cX9_tree 16 = .ok (.getfield 75, 3) := by decide +kernel
theorem dX9_tree_19 : decode cX9_tree 19 = .ok (.ifCond .ne 9, 3) := by decide +kernel
theorem dX9_tree_22 : decode cX9_tree 22 = .ok (.aload_n 0, 1) := by decide +kernel
theorem dX9_tree_23 : decode cX9_tree 23 = .ok (.iconst 3, 1) := by decide +kernel
theorem dX9_tree_24 : decode cX9_tree 24 = .ok (.invokevirtual 79, 3) := by decide +kernel
theorem dX9_tree_27 : decode cX9_tree 27 = .ok (.ireturn, 1) := by decide +kernel
theorem dX9_tree_28 : decode cX9_tree 28 = .ok (.aload_n 0, 1) := by decide +kernel
theorem dX9_tree_29 : decode cX9_tree 29 = .ok (.invokevirtual 277, 3) := by decide +kernel
theorem dX9_tree_32 : decode cX9_tree 32 = .ok (.ifCond .ne 9, 3) := by decide +kernel
theorem dX9_tree_35 : decode cX9_tree 35 = .ok (.aload_n 0, 1) := by decide +kernel
theorem dX9_tree_36 : decode cX9_tree 36 = .ok (.iconst 4, 1) := by decide +kernel
theorem dX9_tree_37 : decode cX9_tree 37 = .ok (.invokevirtual 79, 3) := by decide +kernel
theorem dX9_tree_40 : decode cX9_tree 40 = .ok (.ireturn, 1) := by decide +kernel
theorem dX9_tree_41 : decode cX9_tree 41 = .ok (.iload_n 1, 1) := by decide +kernel
theorem dX9_tree_42 : decode cX9_tree 42 = .ok (.ifCond .ne 10, 3) := by decide +kernel
theorem dX9_tree_45 : decode cX9_tree 45 = .ok (.aload_n 0, 1) := by decide +kernel
theorem dX9_tree_46 : decode cX9_tree 46 = .ok (.getfield 264, 3) := by decide +kernel
theorem dX9_tree_49 : decode cX9_tree 49 = .ok (.goto 19, 3) := by decide +kernel
theorem dX9_tree_52 : decode cX9_tree 52 = .ok (.iload_n 1, 1) := by decide +kernel
theorem dX9_tree_53 : decode cX9_tree 53 = .ok (.iconst 1, 1) := by decide +kernel
theorem dX9_tree_54 : decode cX9_tree 54 = .ok (.if_icmp .ne 10, 3) := by decide +kernel
theorem dX9_tree_57 : decode cX9_tree 57 = .ok (.aload_n 0, 1) := by decide +kernel
theorem dX9_tree_58 : decode cX9_tree 58 = .ok (.getfield 270, 3) := by decide +kernel
theorem dX9_tree_61 : decode cX9_tree 61 = .ok (.goto 7, 3) := by decide +kernel
theorem dX9_tree_64 : decode cX9_tree 64 = .ok (.aload_n 0, 1) := by decide +kernel
theorem dX9_tree_65 : decode cX9_tree 65 = .ok (.getfield 267, 3) := by decide +kernel
theorem dX9_tree_68 : decode cX9_tree 68 = .ok (.ireturn, 1) := by decide +kernel
theorem dX9_node_0 : decode cX9_node 0 = .ok (.aload_n 0, 1) := by decide +kernel
theorem dX9_node_1 : decode cX9_node 1 = .ok (.getfield 75, 3) := by decide +kernel
theorem dX9_node_4 : decode cX9_node 4 = .ok (.ifCond .ne 9, 3) := by decide +kernel
theorem dX9_node_7 : decode cX9_node 7 = .ok (.aload_n 0, 1) := by decide +kernel
theorem dX9_node_8 : decode cX9_node 8 = .ok (.iconst 3, 1) := by decide +kernel
theorem dX9_node_9 : decode cX9_node 9 = .ok (.invokevirtual 79, 3) := by decide +kernel
theorem dX9_node_12 : decode cX9_node 12 = .ok (.ireturn, 1) := by decide +kernel
theorem dX9_node_13 : decode cX9_node 13 = .ok (.aload_n 0, 1) := by decide +kernel
theorem dX9_node_14 : decode cX9_node 14 = .ok (.invokevirtual 277, 3) := by decide +kernel
theorem dX9_node_17 : decode cX9_node 17 = .ok (.ifCond .ne 9, 3) := by decide +kernel
theorem dX9_node_20 : decode cX9_node 20 = .ok (.aload_n 0, 1) := by decide +kernel
theorem dX9_node_21 : decode cX9_node 21 = .ok (.iconst 4, 1) := by decide +kernel
theorem dX9_node_22 : decode cX9_node 22 = .ok (.invokevirtual 79, 3) := by decide +kernel
theorem dX9_node_25 : decode cX9_node 25 = .ok (.ireturn, 1) := by decide +kernel
theorem dX9_node_26 : decode cX9_node 26 = .ok (.iload_n 1, 1) := by decide +kernel
theorem dX9_node_27 : decode cX9_node 27 = .ok (.iconst 1, 1) := by decide +kernel
theorem dX9_node_28 : decode cX9_node 28 = .ok (.aload_n 0, 1) := by decide +kernel
theorem dX9_node_29 : decode cX9_node 29 = .ok (.getfield 264, 3) := by decide +kernel
theorem dX9_node_32 : decode cX9_node 32 = .ok (.iconst 1, 1) := by decide +kernel
theorem dX9_node_33 : decode cX9_node 33 = .ok (.isub, 1) := by decide +kernel
theorem dX9_node_34 : decode cX9_node 34 = .ok (.invokestatic 68, 3) := by decide +kernel
theorem dX9_node_37 : decode cX9_node 37 = .ok (.ifCond .eq 12, 3) := by decide +kernel
theorem dX9_node_40 : decode cX9_node 40 = .ok (.aload_n 0, 1) := by decide +kernel
theorem dX9_node_41 : decode cX9_node 41 = .ok (.getfield 52, 3) := by decide +kernel
theorem dX9_node_44 : decode cX9_node 44 = .ok (.iload_n 1, 1) := by decide +kernel
theorem dX9_node_45 : decode cX9_node 45 = .ok (.iaload, 1) := by decide +kernel
theorem dX9_node_46 : decode cX9_node 46 = .ok (.goto 8, 3) := by decide +kernel
theorem dX9_node_49 : decode cX9_node 49 = .ok (.aload_n 0, 1) := by decide +kernel
theorem dX9_node_50 : decode cX9_node 50 = .ok (.iconst 2, 1) := by decide +kernel
theorem dX9_node_51 : decode cX9_node 51 = .ok (.invokevirtual 79, 3) := by decide +kernel
theorem dX9_node_54 : decode cX9_node 54 = .ok (.ireturn, 1) := by decide +kernel
theorem dX9_isSheet_0 : decode cX9_isSheet 0 = .ok (.iload_n 0, 1) := by decide +kernel
theorem dX9_isSheet_1 : decode cX9_isSheet 1 = .ok (.iconst 0, 1) := by decide +kernel
theorem dX9_isSheet_2 : decode cX9_isSheet 2 = .ok (.iconst 3, 1) := by decide +kernel
theorem dX9_isSheet_3 : decode cX9_isSheet 3 = .ok (.invokestatic 68, 3) := by decide +kernel
theorem dX9_isSheet_6 : decode cX9_isSheet 6 = .ok (.ireturn, 1) := by decide +kernel
theorem dX9_sheet_0 : decode cX9_sheet 0 = .ok (.iload_n 1, 1) := by decide +kernel
theorem dX9_sheet_1 : decode cX9_sheet 1 = .ok (.invokestatic 280, 3) := by decide +kernel
theorem dX9_sheet_4 : decode cX9_sheet 4 = .ok (.ifCond .eq 25, 3) := by decide +kernel
theorem dX9_sheet_7 : decode cX9_sheet 7 = .ok (.iload_n 2, 1) := by decide +kernel
theorem dX9_sheet_8 : decode cX9_sheet 8 = .ok (.ifCond .eq 27, 3) := by decide +kernel
theorem dX9_sheet_11 : decode cX9_sheet 11 = .ok (.iload_n 2, 1) := by decide +kernel
theorem dX9_sheet_12 : decode cX9_sheet 12 = .ok (.bipush 8, 2) := by decide +kernel
theorem dX9_sheet_14 : decode cX9_sheet 14 = .ok (.if_icmp .eq 21, 3) := by decide +kernel
theorem dX9_sheet_17 : decode cX9_sheet 17 = .ok (.iload_n 2, 1) := by decide +kernel
theorem dX9_sheet_18 : decode cX9_sheet 18 = .ok (.bipush 16, 2) := by decide +kernel
theorem dX9_sheet_20 : decode cX9_sheet 20 = .ok (.if_icmp .eq 15, 3) := by decide +kernel
theorem dX9_sheet_23 : decode cX9_sheet 23 = .ok (.iload_n 2, 1) := by decide +kernel
theorem dX9_sheet_24 : decode cX9_sheet 24 = .ok (.bipush 32, 2) := by decide +kernel
theorem dX9_sheet_26 : decode cX9_sheet 26 = .ok (.if_icmp .eq 9, 3) := by decide +kernel
theorem dX9_sheet_29 : decode cX9_sheet 29 = .ok (.aload_n 0, 1) := by decide +kernel
theorem dX9_sheet_30 : decode cX9_sheet 30 = .ok (.iconst 1, 1) := by decide +kernel
theorem dX9_sheet_31 : decode cX9_sheet 31 = .ok (.invokevirtual 79, 3) := by decide +kernel
theorem dX9_sheet_34 : decode cX9_sheet 34 = .ok (.ireturn, 1) := by decide +kernel
theorem dX9_sheet_35 : decode cX9_sheet 35 = .ok (.iload_n 2, 1) := by decide +kernel
theorem dX9_sheet_36 : decode cX9_sheet 36 = .ok (.ifCond .eq 13, 3) := by decide +kernel
theorem dX9_sheet_39 : decode cX9_sheet 39 = .ok (.iload_n 3, 1) := by decide +kernel
theorem dX9_sheet_40 : decode cX9_sheet 40 = .ok (.ifCond .ge 9, 3) := by decide +kernel
theorem dX9_sheet_43 : decode cX9_sheet 43 = .ok (.aload_n 0, 1) := by decide +kernel
theorem dX9_sheet_44 : decode cX9_sheet 44 = .ok (.iconst 3, 1) := by decide +kernel
theorem dX9_sheet_45 : decode cX9_sheet 45 = .ok (.invokevirtual 79, 3) := by decide +kernel
theorem dX9_sheet_48 : decode cX9_sheet 48 = .ok (.ireturn, 1) := by decide +kernel
theorem dX9_sheet_49 : decode cX9_sheet 49 = .ok (.iload_n 2, 1) := by decide +kernel
theorem dX9_sheet_50 : decode cX9_sheet 50 = .ok (.ifCond .eq 15, 3) := by decide +kernel
theorem dX9_sheet_53 : decode cX9_sheet 53 = .ok (.iload_n 3, 1) := by decide +kernel
theorem dX9_sheet_54 : decode cX9_sheet 54 = .ok (.bipush 24, 2) := by decide +kernel
theorem dX9_sheet_56 : decode cX9_sheet 56 = .ok (.if_icmp .le 9, 3) := by decide +kernel
theorem dX9_sheet_59 : decode cX9_sheet 59 = .ok (.aload_n 0, 1) := by decide +kernel
theorem dX9_sheet_60 : decode cX9_sheet 60 = .ok (.iconst 1, 1) := by decide +kernel
theorem dX9_sheet_61 : decode cX9_sheet 61 = .ok (.invokevirtual 79, 3) := by decide +kernel
theorem dX9_sheet_64 : decode cX9_sheet 64 = .ok (.ireturn, 1) := by decide +kernel
theorem dX9_sheet_65 : decode cX9_sheet 65 = .ok (.aload_n 0, 1) := by decide +kernel
theorem dX9_sheet_66 : decode cX9_sheet 66 = .ok (.getfield 55, 3) := by decide +kernel
theorem dX9_sheet_69 : decode cX9_sheet 69 = .ok (.iload_n 1, 1) := by decide +kernel
theorem dX9_sheet_70 : decode cX9_sheet 70 = .ok (.iload_n 2, 1) := by decide +kernel
theorem dX9_sheet_71 : decode cX9_sheet 71 = .ok (.iastore, 1) := by decide +kernel
theorem dX9_sheet_72 : decode cX9_sheet 72 = .ok (.aload_n 0, 1) := by decide +kernel
theorem dX9_sheet_73 : decode cX9_sheet 73 = .ok (.getfield 58, 3) := by decide +kernel
theorem dX9_sheet_76 : decode cX9_sheet 76 = .ok (.iload_n 1, 1) := by decide +kernel
theorem dX9_sheet_77 : decode cX9_sheet 77 = .ok (.iload_n 2, 1) := by decide +kernel
theorem dX9_sheet_78 : decode cX9_sheet 78 = .ok (.ifCond .ne 7, 3) := by decide +kernel
theorem dX9_sheet_81 : decode cX9_sheet 81 = .ok (.iconst 0, 1) := by decide +kernel
theorem dX9_sheet_82 : decode cX9_sheet 82 = .ok (.goto 4, 3) := by decide +kernel
theorem dX9_sheet_85 : decode cX9_sheet 85 = .ok (.iload_n 3, 1) := by decide +kernel
theorem dX9_sheet_86 : decode cX9_sheet 86 = .ok (.iastore, 1) := by decide +kernel
theorem dX9_sheet_87 : decode cX9_sheet 87 = .ok (.iconst 0, 1) := by decide +kernel
theorem dX9_sheet_88 : decode cX9_sheet 88 = .ok (.istore 4, 2) := by decide +kernel
theorem dX9_sheet_90 : decode cX9_sheet 90 = .ok (.iload 4, 2) := by decide +kernel
theorem dX9_sheet_92 : decode cX9_sheet 92 = .ok (.bipush 24, 2) := by decide +kernel
theorem dX9_sheet_94 : decode cX9_sheet 94 = .ok (.if_icmp .ge 22, 3) := by decide +kernel
theorem dX9_sheet_97 : decode cX9_sheet 97 = .ok (.aload_n 0, 1) := by decide +kernel
theorem dX9_sheet_98 : decode cX9_sheet 98 = .ok (.getfield 61, 3) := by decide +kernel
theorem dX9_sheet_101 : decode cX9_sheet 101 = .ok (.bipush 24, 2) := by decide +kernel
theorem dX9_sheet_103 : decode cX9_sheet 103 = .ok (.iload_n 1, 1) := by decide +kernel
theorem dX9_sheet_104 : decode cX9_sheet 104 = .ok (.imul, 1) := by decide +kernel
theorem dX9_sheet_105 : decode cX9_sheet 105 = .ok (.iload 4, 2) := by decide +kernel
theorem dX9_sheet_107 : decode cX9_sheet 107 = .ok (.iadd, 1) := by decide +kernel
theorem dX9_sheet_108 : decode cX9_sheet 108 = .ok (.iconst 0, 1) := by decide +kernel
theorem dX9_sheet_109 : decode cX9_sheet 109 = .ok (.iastore, 1) := by decide +kernel
theorem dX9_sheet_110 : decode cX9_sheet 110 = .ok (.iinc 4 1, 3) := by decide +kernel
theorem dX9_sheet_113 : decode cX9_sheet 113 = .ok (.goto (-23), 3) := by decide +kernel
theorem dX9_sheet_116 : decode cX9_sheet 116 = .ok (.iconst 1, 1) := by decide +kernel
theorem dX9_sheet_117 : decode cX9_sheet 117 = .ok (.ireturn, 1) := by decide +kernel
theorem dX9_wrongCell_0 : decode cX9_wrongCell 0 = .ok (.iload_n 1, 1) := by decide +kernel
theorem dX9_wrongCell_1 : decode cX9_wrongCell 1 = .ok (.invokestatic 280, 3) := by decide +kernel
theorem dX9_wrongCell_4 : decode cX9_wrongCell 4 = .ok (.ifCond .ne 7, 3) := by decide +kernel
theorem dX9_wrongCell_7 : decode cX9_wrongCell 7 = .ok (.iconst 1, 1) := by decide +kernel
theorem dX9_wrongCell_8 : decode cX9_wrongCell 8 = .ok (.goto 38, 3) := by decide +kernel
theorem dX9_wrongCell_11 : decode cX9_wrongCell 11 = .ok (.aload_n 0, 1) := by decide +kernel
theorem dX9_wrongCell_12 : decode cX9_wrongCell 12 = .ok (.getfield 55, 3) := by decide +kernel
theorem dX9_wrongCell_15 : decode cX9_wrongCell 15 = .ok (.iload_n 1, 1) := by decide +kernel
theorem dX9_wrongCell_16 : decode cX9_wrongCell 16 = .ok (.iaload, 1) := by decide +kernel
theorem dX9_wrongCell_17 : decode cX9_wrongCell 17 = .ok (.ifCond .ne 8, 3) := by decide +kernel
theorem dX9_wrongCell_20 : decode cX9_wrongCell 20 = .ok (.bipush 6, 2) := by decide +kernel
theorem dX9_wrongCell_22 : decode cX9_wrongCell 22 = .ok (.goto 24, 3) := by decide +kernel
theorem dX9_wrongCell_25 : decode cX9_wrongCell 25 = .ok (.iload_n 2, 1) := by decide +kernel
theorem dX9_wrongCell_26 : decode cX9_wrongCell 26 = .ok (.iconst 0, 1) := by decide +kernel
theorem dX9_wrongCell_27 : decode cX9_wrongCell 27 = .ok (.aload_n 0, 1) := by decide +kernel
theorem dX9_wrongCell_28 : decode cX9_wrongCell 28 = .ok (.getfield 58, 3) := by decide +kernel
theorem dX9_wrongCell_31 : decode cX9_wrongCell 31 = .ok (.iload_n 1, 1) := by decide +kernel
theorem dX9_wrongCell_32 : decode cX9_wrongCell 32 = .ok (.iaload, 1) := by decide +kernel
theorem dX9_wrongCell_33 : decode cX9_wrongCell 33 = .ok (.iconst 1, 1) := by decide +kernel
theorem dX9_wrongCell_34 : decode cX9_wrongCell 34 = .ok (.isub, 1) := by decide +kernel
theorem dX9_wrongCell_35 : decode cX9_wrongCell 35 = .ok (.invokestatic 68, 3) := by decide +kernel
theorem dX9_wrongCell_38 : decode cX9_wrongCell 38 = .ok (.ifCond .eq 7, 3) := by decide +kernel
theorem dX9_wrongCell_41 : decode cX9_wrongCell 41 = .ok (.iconst 0, 1) := by decide +kernel
theorem dX9_wrongCell_42 : decode cX9_wrongCell 42 = .ok (.goto 4, 3) := by decide +kernel
theorem dX9_wrongCell_45 : decode cX9_wrongCell 45 = .ok (.iconst 1, 1) := by decide +kernel
theorem dX9_wrongCell_46 : decode cX9_wrongCell 46 = .ok (.ireturn, 1) := by decide +kernel
theorem dX9_lays_0 : decode cX9_lays 0 = .ok (.aload_n 0, 1) := by decide +kernel
theorem dX9_lays_1 : decode cX9_lays 1 = .ok (.getfield 61, 3) := by decide +kernel
theorem dX9_lays_4 : decode cX9_lays 4 = .ok (.bipush 24, 2) := by decide +kernel
theorem dX9_lays_6 : decode cX9_lays 6 = .ok (.iload_n 1, 1) := by decide +kernel
theorem dX9_lays_7 : decode cX9_lays 7 = .ok (.imul, 1) := by decide +kernel
theorem dX9_lays_8 : decode cX9_lays 8 = .ok (.iload_n 2, 1) := by decide +kernel
theorem dX9_lays_9 : decode cX9_lays 9 = .ok (.iadd, 1) := by decide +kernel
theorem dX9_lays_10 : decode cX9_lays 10 = .ok (.aload_n 0, 1) := by decide +kernel
theorem dX9_lays_11 : decode cX9_lays 11 = .ok (.getfield 55, 3) := by decide +kernel
theorem dX9_lays_14 : decode cX9_lays 14 = .ok (.iload_n 1, 1) := by decide +kernel
theorem dX9_lays_15 : decode cX9_lays 15 = .ok (.iaload, 1) := by decide +kernel
theorem dX9_lays_16 : decode cX9_lays 16 = .ok (.bipush 8, 2) := by decide +kernel
theorem dX9_lays_18 : decode cX9_lays 18 = .ok (.if_icmp .ne 8, 3) := by decide +kernel
theorem dX9_lays_21 : decode cX9_lays 21 = .ok (.iload_n 3, 1) := by decide +kernel
theorem dX9_lays_22 : decode cX9_lays 22 = .ok (.i2b, 1) := by decide +kernel
theorem dX9_lays_23 : decode cX9_lays 23 = .ok (.goto 20, 3) := by decide +kernel
theorem dX9_lays_26 : decode cX9_lays 26 = .ok (.aload_n 0, 1) := by decide +kernel
theorem dX9_lays_27 : decode cX9_lays 27 = .ok (.getfield 55, 3) := by decide +kernel
theorem dX9_lays_30 : decode cX9_lays 30 = .ok (.iload_n 1, 1) := by decide +kernel
theorem dX9_lays_31 : decode cX9_lays 31 = .ok (.iaload, 1) := by decide +kernel
theorem dX9_lays_32 : decode cX9_lays 32 = .ok (.bipush 16, 2) := by decide +kernel
theorem dX9_lays_34 : decode cX9_lays 34 = .ok (.if_icmp .ne 8, 3) := by decide +kernel
theorem dX9_lays_37 : decode cX9_lays 37 = .ok (.iload_n 3, 1) := by decide +kernel
theorem dX9_lays_38 : decode cX9_lays 38 = .ok (.i2s, 1) := by decide +kernel
theorem dX9_lays_39 : decode cX9_lays 39 = .ok (.goto 4, 3) := by decide +kernel
theorem dX9_lays_42 : decode cX9_lays 42 = .ok (.iload_n 3, 1) := by decide +kernel
theorem dX9_lays_43 : decode cX9_lays 43 = .ok (.iastore, 1) := by decide +kernel
theorem dX9_lays_44 : decode cX9_lays 44 = .ok (.return_, 1) := by decide +kernel
theorem dX9_put_0 : decode cX9_put 0 = .ok (.aload_n 0, 1) := by decide +kernel
theorem dX9_put_1 : decode cX9_put 1 = .ok (.iload_n 1, 1) := by decide +kernel
theorem dX9_put_2 : decode cX9_put 2 = .ok (.iload_n 2, 1) := by decide +kernel
theorem dX9_put_3 : decode cX9_put 3 = .ok (.invokevirtual 283, 3) := by decide +kernel
theorem dX9_put_6 : decode cX9_put 6 = .ok (.istore 4, 2) := by decide +kernel
theorem dX9_put_8 : decode cX9_put 8 = .ok (.iload 4, 2) := by decide +kernel
theorem dX9_put_10 : decode cX9_put 10 = .ok (.ifCond .eq 10, 3) := by decide +kernel
theorem dX9_put_13 : decode cX9_put 13 = .ok (.aload_n 0, 1) := by decide +kernel
theorem dX9_put_14 : decode cX9_put 14 = .ok (.iload 4, 2) := by decide +kernel
theorem dX9_put_16 : decode cX9_put 16 = .ok (.invokevirtual 79, 3) := by decide +kernel
theorem dX9_put_19 : decode cX9_put 19 = .ok (.ireturn, 1) := by decide +kernel
theorem dX9_put_20 : decode cX9_put 20 = .ok (.aload_n 0, 1) := by decide +kernel
theorem dX9_put_21 : decode cX9_put 21 = .ok (.iload_n 1, 1) := by decide +kernel
theorem dX9_put_22 : decode cX9_put 22 = .ok (.iload_n 2, 1) := by decide +kernel
theorem dX9_put_23 : decode cX9_put 23 = .ok (.iload_n 3, 1) := by decide +kernel
theorem dX9_put_24 : decode cX9_put 24 = .ok (.invokevirtual 286, 3) := by decide +kernel
theorem dX9_put_27 : decode cX9_put 27 = .ok (.iconst 1, 1) := by decide +kernel
theorem dX9_put_28 : decode cX9_put 28 = .ok (.ireturn, 1) := by decide +kernel
theorem dX9_number_0 : decode cX9_number 0 = .ok (.aload_n 0, 1) := by decide +kernel
theorem dX9_number_1 : decode cX9_number 1 = .ok (.iload_n 1, 1) := by decide +kernel
theorem dX9_number_2 : decode cX9_number 2 = .ok (.iload_n 2, 1) := by decide +kernel
theorem dX9_number_3 : decode cX9_number 3 = .ok (.invokevirtual 283, 3) := by decide +kernel
theorem dX9_number_6 : decode cX9_number 6 = .ok (.istore_n 3, 1) := by decide +kernel
theorem dX9_number_7 : decode cX9_number 7 = .ok (.iload_n 3, 1) := by decide +kernel
theorem dX9_number_8 : decode cX9_number 8 = .ok (.ifCond .eq 11, 3) := by decide +kernel
theorem dX9_number_11 : decode cX9_number 11 = .ok (.aload_n 0, 1) := by decide +kernel
theorem dX9_number_12 : decode cX9_number 12 = .ok (.iload_n 3, 1) := by decide +kernel
theorem dX9_number_13 : decode cX9_number 13 = .ok (.invokevirtual 79, 3) := by decide +kernel
theorem dX9_number_16 : decode cX9_number 16 = .ok (.goto 14, 3) := by decide +kernel
theorem dX9_number_19 : decode cX9_number 19 = .ok (.aload_n 0, 1) := by decide +kernel
theorem dX9_number_20 : decode cX9_number 20 = .ok (.getfield 61, 3) := by decide +kernel
theorem dX9_number_23 : decode cX9_number 23 = .ok (.bipush 24, 2) := by decide +kernel
theorem dX9_number_25 : decode cX9_number 25 = .ok (.iload_n 1, 1) := by decide +kernel
theorem dX9_number_26 : decode cX9_number 26 = .ok (.imul, 1) := by decide +kernel
theorem dX9_number_27 : decode cX9_number 27 = .ok (.iload_n 2, 1) := by decide +kernel
theorem dX9_number_28 : decode cX9_number 28 = .ok (.iadd, 1) := by decide +kernel
theorem dX9_number_29 : decode cX9_number 29 = .ok (.iaload, 1) := by decide +kernel
theorem dX9_number_30 : decode cX9_number 30 = .ok (.ireturn, 1) := by decide +kernel
theorem dX9_copy_0 : decode cX9_copy 0 = .ok (.iload_n 1, 1) := by decide +kernel
theorem dX9_copy_1 : decode cX9_copy 1 = .ok (.invokestatic 280, 3) := by decide +kernel
theorem dX9_copy_4 : decode cX9_copy 4 = .ok (.ifCond .eq 10, 3) := by decide +kernel
theorem dX9_copy_7 : decode cX9_copy 7 = .ok (.iload_n 3, 1) := by decide +kernel
theorem dX9_copy_8 : decode cX9_copy 8 = .ok (.invokestatic 280, 3) := by decide +kernel
theorem dX9_copy_11 : decode cX9_copy 11 = .ok (.ifCond .ne 9, 3) := by decide +kernel
theorem dX9_copy_14 : decode cX9_copy 14 = .ok (.aload_n 0, 1) := by decide +kernel
theorem dX9_copy_15 : decode cX9_copy 15 = .ok (.iconst 1, 1) := by decide +kernel
theorem dX9_copy_16 : decode cX9_copy 16 = .ok (.invokevirtual 79, 3) := by decide +kernel
theorem dX9_copy_19 : decode cX9_copy 19 = .ok (.ireturn, 1) := by decide +kernel
theorem dX9_copy_20 : decode cX9_copy 20 = .ok (.aload_n 0, 1) := by decide +kernel
theorem dX9_copy_21 : decode cX9_copy 21 = .ok (.getfield 55, 3) := by decide +kernel
theorem dX9_copy_24 : decode cX9_copy 24 = .ok (.iload_n 1, 1) := by decide +kernel
theorem dX9_copy_25 : decode cX9_copy 25 = .ok (.iaload, 1) := by decide +kernel
theorem dX9_copy_26 : decode cX9_copy 26 = .ok (.ifCond .eq 12, 3) := by decide +kernel
theorem dX9_copy_29 : decode cX9_copy 29 = .ok (.aload_n 0, 1) := by decide +kernel
theorem dX9_copy_30 : decode cX9_copy 30 = .ok (.getfield 55, 3) := by decide +kernel
theorem dX9_copy_33 : decode cX9_copy 33 = .ok (.iload_n 3, 1) := by decide +kernel
theorem dX9_copy_34 : decode cX9_copy 34 = .ok (.iaload, 1) := by decide +kernel
theorem dX9_copy_35 : decode cX9_copy 35 = .ok (.ifCond .ne 10, 3) := by decide +kernel
theorem dX9_copy_38 : decode cX9_copy 38 = .ok (.aload_n 0, 1) := by decide +kernel
theorem dX9_copy_39 : decode cX9_copy 39 = .ok (.bipush 6, 2) := by decide +kernel
theorem dX9_copy_41 : decode cX9_copy 41 = .ok (.invokevirtual 79, 3) := by decide +kernel
theorem dX9_copy_44 : decode cX9_copy 44 = .ok (.ireturn, 1) := by decide +kernel
theorem dX9_copy_45 : decode cX9_copy 45 = .ok (.aload_n 0, 1) := by decide +kernel
theorem dX9_copy_46 : decode cX9_copy 46 = .ok (.getfield 55, 3) := by decide +kernel
theorem dX9_copy_49 : decode cX9_copy 49 = .ok (.iload_n 1, 1) := by decide +kernel
theorem dX9_copy_50 : decode cX9_copy 50 = .ok (.iaload, 1) := by decide +kernel
theorem dX9_copy_51 : decode cX9_copy 51 = .ok (.aload_n 0, 1) := by decide +kernel
theorem dX9_copy_52 : decode cX9_copy 52 = .ok (.getfield 55, 3) := by decide +kernel
theorem dX9_copy_55 : decode cX9_copy 55 = .ok (.iload_n 3, 1) := by decide +kernel
theorem dX9_copy_56 : decode cX9_copy 56 = .ok (.iaload, 1) := by decide +kernel
theorem dX9_copy_57 : decode cX9_copy 57 = .ok (.if_icmp .eq 9, 3) := by decide +kernel
theorem dX9_copy_60 : decode cX9_copy 60 = .ok (.aload_n 0, 1) := by decide +kernel
theorem dX9_copy_61 : decode cX9_copy 61 = .ok (.iconst 5, 1) := by decide +kernel
theorem dX9_copy_62 : decode cX9_copy 62 = .ok (.invokevirtual 79, 3) := by decide +kernel
theorem dX9_copy_65 : decode cX9_copy 65 = .ok (.ireturn, 1) := by decide +kernel
theorem dX9_copy_66 : decode cX9_copy 66 = .ok (.iload 5, 2) := by decide +kernel
theorem dX9_copy_68 : decode cX9_copy 68 = .ok (.ifCond .lt 39, 3) := by decide +kernel
theorem dX9_copy_71 : decode cX9_copy 71 = .ok (.iload_n 2, 1) := by decide +kernel
theorem dX9_copy_72 : decode cX9_copy 72 = .ok (.ifCond .lt 35, 3) := by decide +kernel
theorem dX9_copy_75 : decode cX9_copy 75 = .ok (.iload 4, 2) := by decide +kernel
theorem dX9_copy_77 : decode cX9_copy 77 = .ok (.ifCond .lt 30, 3) := by decide +kernel
theorem dX9_copy_80 : decode cX9_copy 80 = .ok (.iload 5, 2) := by decide +kernel
theorem dX9_copy_82 : decode cX9_copy 82 = .ok (.aload_n 0, 1) := by decide +kernel
theorem dX9_copy_83 : decode cX9_copy 83 = .ok (.getfield 58, 3) := by decide +kernel
theorem dX9_copy_86 : decode cX9_copy 86 = .ok (.iload_n 1, 1) := by decide +kernel
theorem dX9_copy_87 : decode cX9_copy 87 = .ok (.iaload, 1) := by decide +kernel
theorem dX9_copy_88 : decode cX9_copy 88 = .ok (.iload_n 2, 1) := by decide +kernel
theorem dX9_copy_89 : decode cX9_copy 89 = .ok (.isub, 1) := by decide +kernel
theorem dX9_copy_90 : decode cX9_copy 90 = .ok (.if_icmp .gt 17, 3) := by decide +kernel
theorem dX9_copy_93 : decode cX9_copy 93 = .ok (.iload 5, 2) := by decide +kernel
theorem dX9_copy_95 : decode cX9_copy 95 = .ok (.aload_n 0, 1) := by decide +kernel
theorem dX9_copy_96 : decode cX9_copy 96 = .ok (.getfield 58, 3) := by decide +kernel
theorem dX9_copy_99 : decode cX9_copy 99 = .ok (.iload_n 3, 1) := by decide +kernel
theorem dX9_copy_100 : decode cX9_copy 100 = .ok (.iaload, 1) := by decide +kernel
theorem dX9_copy_101 : decode cX9_copy 101 = .ok (.iload 4, 2) := by decide +kernel
theorem dX9_copy_103 : decode cX9_copy 103 = .ok (.isub, 1) := by decide +kernel
theorem dX9_copy_104 : decode cX9_copy 104 = .ok (.if_icmp .le 9, 3) := by decide +kernel
theorem dX9_copy_107 : decode cX9_copy 107 = .ok (.aload_n 0, 1) := by decide +kernel
theorem dX9_copy_108 : decode cX9_copy 108 = .ok (.iconst 1, 1) := by decide +kernel
theorem dX9_copy_109 : decode cX9_copy 109 = .ok (.invokevirtual 79, 3) := by decide +kernel
theorem dX9_copy_112 : decode cX9_copy 112 = .ok (.ireturn, 1) := by decide +kernel
theorem dX9_copy_113 : decode cX9_copy 113 = .ok (.iconst 0, 1) := by decide +kernel
theorem dX9_copy_114 : decode cX9_copy 114 = .ok (.istore 6, 2) := by decide +kernel
theorem dX9_copy_116 : decode cX9_copy 116 = .ok (.iload 6, 2) := by decide +kernel
theorem dX9_copy_118 : decode cX9_copy 118 = .ok (.iload 5, 2) := by decide +kernel
theorem dX9_copy_120 : decode cX9_copy 120 = .ok (.if_icmp .ge 58, 3) := by decide +kernel
theorem dX9_copy_123 : decode cX9_copy 123 = .ok (.iload_n 2, 1) := by decide +kernel
theorem dX9_copy_124 : decode cX9_copy 124 = .ok (.iload 4, 2) := by decide +kernel
theorem dX9_copy_126 : decode cX9_copy 126 = .ok (.if_icmp .ge 13, 3) := by decide +kernel
theorem dX9_copy_129 : decode cX9_copy 129 = .ok (.iload 5, 2) := by decide +kernel
theorem dX9_copy_131 : decode cX9_copy 131 = .ok (.iconst 1, 1) := by decide +kernel
theorem dX9_copy_132 : decode cX9_copy 132 = .ok (.isub, 1) := by decide +kernel
theorem dX9_copy_133 : decode cX9_copy 133 = .ok (.iload 6, 2) := by decide +kernel
theorem dX9_copy_135 : decode cX9_copy 135 = .ok (.isub, 1) := by decide +kernel
theorem dX9_copy_136 : decode cX9_copy 136 = .ok (.goto 5, 3) := by decide +kernel
theorem dX9_copy_139 : decode cX9_copy 139 = .ok (.iload 6, 2) := by decide +kernel
theorem dX9_copy_141 : decode cX9_copy 141 = .ok (.istore 7, 2) := by decide +kernel
theorem dX9_copy_143 : decode cX9_copy 143 = .ok (.aload_n 0, 1) := by decide +kernel
theorem dX9_copy_144 : decode cX9_copy 144 = .ok (.getfield 61, 3) := by decide +kernel
theorem dX9_copy_147 : decode cX9_copy 147 = .ok (.bipush 24, 2) := by decide +kernel
theorem dX9_copy_149 : decode cX9_copy 149 = .ok (.iload_n 3, 1) := by decide +kernel
theorem dX9_copy_150 : decode cX9_copy 150 = .ok (.imul, 1) := by decide +kernel
theorem dX9_copy_151 : decode cX9_copy 151 = .ok (.iload 4, 2) := by decide +kernel
theorem dX9_copy_153 : decode cX9_copy 153 = .ok (.iadd, 1) := by decide +kernel
theorem dX9_copy_154 : decode cX9_copy 154 = .ok (.iload 7, 2) := by decide +kernel
theorem dX9_copy_156 : decode cX9_copy 156 = .ok (.iadd, 1) := by decide +kernel
theorem dX9_copy_157 : decode cX9_copy 157 = .ok (.aload_n 0, 1) := by decide +kernel
theorem dX9_copy_158 : decode cX9_copy 158 = .ok (.getfield 61, 3) := by decide +kernel
theorem dX9_copy_161 : decode cX9_copy 161 = .ok (.bipush 24, 2) := by decide +kernel
theorem dX9_copy_163 : decode cX9_copy 163 = .ok (.iload_n 1, 1) := by decide +kernel
theorem dX9_copy_164 : decode cX9_copy 164 = .ok (.imul, 1) := by decide +kernel
theorem dX9_copy_165 : decode cX9_copy 165 = .ok (.iload_n 2, 1) := by decide +kernel
theorem dX9_copy_166 : decode cX9_copy 166 = .ok (.iadd, 1) := by decide +kernel
theorem dX9_copy_167 : decode cX9_copy 167 = .ok (.iload 7, 2) := by decide +kernel
theorem dX9_copy_169 : decode cX9_copy 169 = .ok (.iadd, 1) := by decide +kernel
theorem dX9_copy_170 : decode cX9_copy 170 = .ok (.iaload, 1) := by decide +kernel
theorem dX9_copy_171 : decode cX9_copy 171 = .ok (.iastore, 1) := by decide +kernel
theorem dX9_copy_172 : decode cX9_copy 172 = .ok (.iinc 6 1, 3) := by decide +kernel
theorem dX9_copy_175 : decode cX9_copy 175 = .ok (.goto (-59), 3) := by decide +kernel
theorem dX9_copy_178 : decode cX9_copy 178 = .ok (.iload 5, 2) := by decide +kernel
theorem dX9_copy_180 : decode cX9_copy 180 = .ok (.ireturn, 1) := by decide +kernel
theorem dX9_degrees_0 : decode cX9_degrees 0 = .ok (.iload_n 1, 1) := by decide +kernel
theorem dX9_degrees_1 : decode cX9_degrees 1 = .ok (.invokestatic 280, 3) := by decide +kernel
theorem dX9_degrees_4 : decode cX9_degrees 4 = .ok (.ifCond .eq 12, 3) := by decide +kernel
theorem dX9_degrees_7 : decode cX9_degrees 7 = .ok (.iload_n 2, 1) := by decide +kernel
theorem dX9_degrees_8 : decode cX9_degrees 8 = .ok (.iconst 0, 1) := by decide +kernel
theorem dX9_degrees_9 : decode cX9_degrees 9 = .ok (.iconst 2, 1) := by decide +kernel
theorem dX9_degrees_10 : decode cX9_degrees 10 = .ok (.invokestatic 68, 3) := by decide +kernel
theorem dX9_degrees_13 : decode cX9_degrees 13 = .ok (.ifCond .ne 9, 3) := by decide +kernel
theorem dX9_degrees_16 : decode cX9_degrees 16 = .ok (.aload_n 0, 1) := by decide +kernel
theorem dX9_degrees_17 : decode cX9_degrees 17 = .ok (.iconst 1, 1) := by decide +kernel
theorem dX9_degrees_18 : decode cX9_degrees 18 = .ok (.invokevirtual 79, 3) := by decide +kernel
theorem dX9_degrees_21 : decode cX9_degrees 21 = .ok (.ireturn, 1) := by decide +kernel
theorem dX9_degrees_22 : decode cX9_degrees 22 = .ok (.aload_n 0, 1) := by decide +kernel
theorem dX9_degrees_23 : decode cX9_degrees 23 = .ok (.getfield 55, 3) := by decide +kernel
theorem dX9_degrees_26 : decode cX9_degrees 26 = .ok (.iload_n 1, 1) := by decide +kernel
theorem dX9_degrees_27 : decode cX9_degrees 27 = .ok (.iaload, 1) := by decide +kernel
theorem dX9_degrees_28 : decode cX9_degrees 28 = .ok (.ifCond .ne 10, 3) := by decide +kernel
theorem dX9_degrees_31 : decode cX9_degrees 31 = .ok (.aload_n 0, 1) := by decide +kernel
theorem dX9_degrees_32 : decode cX9_degrees 32 = .ok (.bipush 6, 2) := by decide +kernel
theorem dX9_degrees_34 : decode cX9_degrees 34 = .ok (.invokevirtual 79, 3) := by decide +kernel
theorem dX9_degrees_37 : decode cX9_degrees 37 = .ok (.ireturn, 1) := by decide +kernel
theorem dX9_degrees_38 : decode cX9_degrees 38 = .ok (.aload_n 0, 1) := by decide +kernel
theorem dX9_degrees_39 : decode cX9_degrees 39 = .ok (.getfield 58, 3) := by decide +kernel
theorem dX9_degrees_42 : decode cX9_degrees 42 = .ok (.iload_n 1, 1) := by decide +kernel
theorem dX9_degrees_43 : decode cX9_degrees 43 = .ok (.iaload, 1) := by decide +kernel
theorem dX9_degrees_44 : decode cX9_degrees 44 = .ok (.aload_n 0, 1) := by decide +kernel
theorem dX9_degrees_45 : decode cX9_degrees 45 = .ok (.getfield 13, 3) := by decide +kernel
theorem dX9_degrees_48 : decode cX9_degrees 48 = .ok (.if_icmp .ge 12, 3) := by decide +kernel
theorem dX9_degrees_51 : decode cX9_degrees 51 = .ok (.aload_n 0, 1) := by decide +kernel
theorem dX9_degrees_52 : decode cX9_degrees 52 = .ok (.getfield 58, 3) := by decide +kernel
theorem dX9_degrees_55 : decode cX9_degrees 55 = .ok (.iload_n 1, 1) := by decide +kernel
theorem dX9_degrees_56 : decode cX9_degrees 56 = .ok (.iaload, 1) := by decide +kernel
theorem dX9_degrees_57 : decode cX9_degrees 57 = .ok (.goto 7, 3) := by decide +kernel
theorem dX9_degrees_60 : decode cX9_degrees 60 = .ok (.aload_n 0, 1) := by decide +kernel
theorem dX9_degrees_61 : decode cX9_degrees 61 = .ok (.getfield 13, 3) := by decide +kernel
theorem dX9_degrees_64 : decode cX9_degrees 64 = .ok (.istore_n 3, 1) := by decide +kernel
theorem dX9_degrees_65 : decode cX9_degrees 65 = .ok (.iconst 0, 1) := by decide +kernel
theorem dX9_degrees_66 : decode cX9_degrees 66 = .ok (.istore 4, 2) := by decide +kernel
theorem dX9_degrees_68 : decode cX9_degrees 68 = .ok (.iload 4, 2) := by decide +kernel
theorem dX9_degrees_70 : decode cX9_degrees 70 = .ok (.iload_n 3, 1) := by decide +kernel
theorem dX9_degrees_71 : decode cX9_degrees 71 = .ok (.if_icmp .ge 23, 3) := by decide +kernel
theorem dX9_degrees_74 : decode cX9_degrees 74 = .ok (.aload_n 0, 1) := by decide +kernel
theorem dX9_degrees_75 : decode cX9_degrees 75 = .ok (.iload_n 1, 1) := by decide +kernel
theorem dX9_degrees_76 : decode cX9_degrees 76 = .ok (.iload 4, 2) := by decide +kernel
theorem dX9_degrees_78 : decode cX9_degrees 78 = .ok (.aload_n 0, 1) := by decide +kernel
theorem dX9_degrees_79 : decode cX9_degrees 79 = .ok (.iload 4, 2) := by decide +kernel
theorem dX9_degrees_81 : decode cX9_degrees 81 = .ok (.iload_n 2, 1) := by decide +kernel
theorem dX9_degrees_82 : decode cX9_degrees 82 = .ok (.invokevirtual 108, 3) := by decide +kernel
theorem dX9_degrees_85 : decode cX9_degrees 85 = .ok (.invokevirtual 286, 3) := by decide +kernel
theorem dX9_degrees_88 : decode cX9_degrees 88 = .ok (.iinc 4 1, 3) := by decide +kernel
theorem dX9_degrees_91 : decode cX9_degrees 91 = .ok (.goto (-23), 3) := by decide +kernel
theorem dX9_degrees_94 : decode cX9_degrees 94 = .ok (.iload_n 3, 1) := by decide +kernel
theorem dX9_degrees_95 : decode cX9_degrees 95 = .ok (.ireturn, 1) := by decide +kernel
theorem dX9_walks_0 : decode cX9_walks 0 = .ok (.iload_n 1, 1) := by decide +kernel
theorem dX9_walks_1 : decode cX9_walks 1 = .ok (.invokestatic 280, 3) := by decide +kernel
theorem dX9_walks_4 : decode cX9_walks 4 = .ok (.ifCond .eq 12, 3) := by decide +kernel
theorem dX9_walks_7 : decode cX9_walks 7 = .ok (.iload_n 2, 1) := by decide +kernel
theorem dX9_walks_8 : decode cX9_walks 8 = .ok (.iconst 0, 1) := by decide +kernel
theorem dX9_walks_9 : decode cX9_walks 9 = .ok (.iconst 1, 1) := by decide +kernel
theorem dX9_walks_10 : decode cX9_walks 10 = .ok (.invokestatic 68, 3) := by decide +kernel
theorem dX9_walks_13 : decode cX9_walks 13 = .ok (.ifCond .ne 9, 3) := by decide +kernel
theorem dX9_walks_16 : decode cX9_walks 16 = .ok (.aload_n 0, 1) := by decide +kernel
theorem dX9_walks_17 : decode cX9_walks 17 = .ok (.iconst 1, 1) := by decide +kernel
theorem dX9_walks_18 : decode cX9_walks 18 = .ok (.invokevirtual 79, 3) := by decide +kernel
theorem dX9_walks_21 : decode cX9_walks 21 = .ok (.ireturn, 1) := by decide +kernel
theorem dX9_walks_22 : decode cX9_walks 22 = .ok (.aload_n 0, 1) := by decide +kernel
theorem dX9_walks_23 : decode cX9_walks 23 = .ok (.getfield 55, 3) := by decide +kernel
theorem dX9_walks_26 : decode cX9_walks 26 = .ok (.iload_n 1, 1) := by decide +kernel
theorem dX9_walks_27 : decode cX9_walks 27 = .ok (.iaload, 1) := by decide +kernel
theorem dX9_walks_28 : decode cX9_walks 28 = .ok (.ifCond .ne 10, 3) := by decide +kernel
theorem dX9_walks_31 : decode cX9_walks 31 = .ok (.aload_n 0, 1) := by decide +kernel
theorem dX9_walks_32 : decode cX9_walks 32 = .ok (.bipush 6, 2) := by decide +kernel
theorem dX9_walks_34 : decode cX9_walks 34 = .ok (.invokevirtual 79, 3) := by decide +kernel
theorem dX9_walks_37 : decode cX9_walks 37 = .ok (.ireturn, 1) := by decide +kernel
theorem dX9_walks_38 : decode cX9_walks 38 = .ok (.aload_n 0, 1) := by decide +kernel
theorem dX9_walks_39 : decode cX9_walks 39 = .ok (.getfield 75, 3) := by decide +kernel
theorem dX9_walks_42 : decode cX9_walks 42 = .ok (.ifCond .ne 9, 3) := by decide +kernel
theorem dX9_walks_45 : decode cX9_walks 45 = .ok (.aload_n 0, 1) := by decide +kernel
theorem dX9_walks_46 : decode cX9_walks 46 = .ok (.iconst 3, 1) := by decide +kernel
theorem dX9_walks_47 : decode cX9_walks 47 = .ok (.invokevirtual 79, 3) := by decide +kernel
theorem dX9_walks_50 : decode cX9_walks 50 = .ok (.ireturn, 1) := by decide +kernel
theorem dX9_walks_51 : decode cX9_walks 51 = .ok (.aload_n 0, 1) := by decide +kernel
theorem dX9_walks_52 : decode cX9_walks 52 = .ok (.getfield 200, 3) := by decide +kernel
theorem dX9_walks_55 : decode cX9_walks 55 = .ok (.istore_n 3, 1) := by decide +kernel
theorem dX9_walks_56 : decode cX9_walks 56 = .ok (.iconst 0, 1) := by decide +kernel
theorem dX9_walks_57 : decode cX9_walks 57 = .ok (.istore 4, 2) := by decide +kernel
theorem dX9_walks_59 : decode cX9_walks 59 = .ok (.iload 4, 2) := by decide +kernel
theorem dX9_walks_61 : decode cX9_walks 61 = .ok (.aload_n 0, 1) := by decide +kernel
theorem dX9_walks_62 : decode cX9_walks 62 = .ok (.getfield 58, 3) := by decide +kernel
theorem dX9_walks_65 : decode cX9_walks 65 = .ok (.iload_n 1, 1) := by decide +kernel
theorem dX9_walks_66 : decode cX9_walks 66 = .ok (.iaload, 1) := by decide +kernel
theorem dX9_walks_67 : decode cX9_walks 67 = .ok (.if_icmp .ge 66, 3) := by decide +kernel
theorem dX9_walks_70 : decode cX9_walks 70 = .ok (.aload_n 0, 1) := by decide +kernel
theorem dX9_walks_71 : decode cX9_walks 71 = .ok (.aload_n 0, 1) := by decide +kernel
theorem dX9_walks_72 : decode cX9_walks 72 = .ok (.getfield 61, 3) := by decide +kernel
theorem dX9_walks_75 : decode cX9_walks 75 = .ok (.bipush 24, 2) := by decide +kernel
theorem dX9_walks_77 : decode cX9_walks 77 = .ok (.iload_n 1, 1) := by decide +kernel
theorem dX9_walks_78 : decode cX9_walks 78 = .ok (.imul, 1) := by decide +kernel
theorem dX9_walks_79 : decode cX9_walks 79 = .ok (.iload 4, 2) := by decide +kernel
theorem dX9_walks_81 : decode cX9_walks 81 = .ok (.iadd, 1) := by decide +kernel
theorem dX9_walks_82 : decode cX9_walks 82 = .ok (.iaload, 1) := by decide +kernel
theorem dX9_walks_83 : decode cX9_walks 83 = .ok (.invokevirtual 94, 3) := by decide +kernel
theorem dX9_walks_86 : decode cX9_walks 86 = .ok (.ifCond .eq 47, 3) := by decide +kernel
theorem dX9_walks_89 : decode cX9_walks 89 = .ok (.aload_n 0, 1) := by decide +kernel
theorem dX9_walks_90 : decode cX9_walks 90 = .ok (.invokevirtual 191, 3) := by decide +kernel
theorem dX9_walks_93 : decode cX9_walks 93 = .ok (.aload_n 0, 1) := by decide +kernel
theorem dX9_walks_94 : decode cX9_walks 94 = .ok (.getfield 61, 3) := by decide +kernel
theorem dX9_walks_97 : decode cX9_walks 97 = .ok (.bipush 24, 2) := by decide +kernel
theorem dX9_walks_99 : decode cX9_walks 99 = .ok (.iload_n 1, 1) := by decide +kernel
theorem dX9_walks_100 : decode cX9_walks 100 = .ok (.imul, 1) := by decide +kernel
theorem dX9_walks_101 : decode cX9_walks 101 = .ok (.iload 4, 2) := by decide +kernel
theorem dX9_walks_103 : decode cX9_walks 103 = .ok (.iadd, 1) := by decide +kernel
theorem dX9_walks_104 : decode cX9_walks 104 = .ok (.iaload, 1) := by decide +kernel
theorem dX9_walks_105 : decode cX9_walks 105 = .ok (.invokestatic 114, 3) := by decide +kernel
theorem dX9_walks_108 : decode cX9_walks 108 = .ok (.ifCond .eq 25, 3) := by decide +kernel
theorem dX9_walks_111 : decode cX9_walks 111 = .ok (.aload_n 0, 1) := by decide +kernel
theorem dX9_walks_112 : decode cX9_walks 112 = .ok (.aload_n 0, 1) := by decide +kernel
theorem dX9_walks_113 : decode cX9_walks 113 = .ok (.getfield 61, 3) := by decide +kernel
theorem dX9_walks_116 : decode cX9_walks 116 = .ok (.bipush 24, 2) := by decide +kernel
theorem dX9_walks_118 : decode cX9_walks 118 = .ok (.iload_n 1, 1) := by decide +kernel
theorem dX9_walks_119 : decode cX9_walks 119 = .ok (.imul, 1) := by decide +kernel
theorem dX9_walks_120 : decode cX9_walks 120 = .ok (.iload 4, 2) := by decide +kernel
theorem dX9_walks_122 : decode cX9_walks 122 = .ok (.iadd, 1) := by decide +kernel
theorem dX9_walks_123 : decode cX9_walks 123 = .ok (.iaload, 1) := by decide +kernel
theorem dX9_walks_124 : decode cX9_walks 124 = .ok (.invokevirtual 210, 3) := by decide +kernel
theorem dX9_walks_127 : decode cX9_walks 127 = .ok (.iinc 4 1, 3) := by decide +kernel
theorem dX9_walks_130 : decode cX9_walks 130 = .ok (.goto (-71), 3) := by decide +kernel
theorem dX9_walks_133 : decode cX9_walks 133 = .ok (.aload_n 0, 1) := by decide +kernel
theorem dX9_walks_134 : decode cX9_walks 134 = .ok (.aload_n 0, 1) := by decide +kernel
theorem dX9_walks_135 : decode cX9_walks 135 = .ok (.getfield 182, 3) := by decide +kernel
theorem dX9_walks_138 : decode cX9_walks 138 = .ok (.aload_n 0, 1) := by decide +kernel
theorem dX9_walks_139 : decode cX9_walks 139 = .ok (.invokevirtual 185, 3) := by decide +kernel
theorem dX9_walks_142 : decode cX9_walks 142 = .ok (.invokevirtual 194, 3) := by decide +kernel
theorem dX9_walks_145 : decode cX9_walks 145 = .ok (.istore 5, 2) := by decide +kernel
theorem dX9_walks_147 : decode cX9_walks 147 = .ok (.aload_n 0, 1) := by decide +kernel
theorem dX9_walks_148 : decode cX9_walks 148 = .ok (.getfield 200, 3) := by decide +kernel
theorem dX9_walks_151 : decode cX9_walks 151 = .ok (.iload_n 3, 1) := by decide +kernel
theorem dX9_walks_152 : decode cX9_walks 152 = .ok (.if_icmp .le 10, 3) := by decide +kernel
theorem dX9_walks_155 : decode cX9_walks 155 = .ok (.aload_n 0, 1) := by decide +kernel
theorem dX9_walks_156 : decode cX9_walks 156 = .ok (.invokevirtual 214, 3) := by decide +kernel
theorem dX9_walks_159 : decode cX9_walks 159 = .ok (.goto (-12), 3) := by decide +kernel
theorem dX9_walks_162 : decode cX9_walks 162 = .ok (.iload_n 2, 1) := by decide +kernel
theorem dX9_walks_163 : decode cX9_walks 163 = .ok (.ifCond .ne 8, 3) := by decide +kernel
theorem dX9_walks_166 : decode cX9_walks 166 = .ok (.iload 4, 2) := by decide +kernel
theorem dX9_walks_168 : decode cX9_walks 168 = .ok (.goto 13, 3) := by decide +kernel
theorem dX9_walks_171 : decode cX9_walks 171 = .ok (.iload 5, 2) := by decide +kernel
theorem dX9_walks_173 : decode cX9_walks 173 = .ok (.ifCond .eq 7, 3) := by decide +kernel
theorem dX9_walks_176 : decode cX9_walks 176 = .ok (.iconst 1, 1) := by decide +kernel
theorem dX9_walks_177 : decode cX9_walks 177 = .ok (.goto 4, 3) := by decide +kernel
theorem dX9_walks_180 : decode cX9_walks 180 = .ok (.iconst 0, 1) := by decide +kernel
theorem dX9_walks_181 : decode cX9_walks 181 = .ok (.ireturn, 1) := by decide +kernel
theorem dX9_seed_0 : decode cX9_seed 0 = .ok (.aload_n 0, 1) := by decide +kernel
theorem dX9_seed_1 : decode cX9_seed 1 = .ok (.getfield 32, 3) := by decide +kernel
theorem dX9_seed_4 : decode cX9_seed 4 = .ok (.istore_n 2, 1) := by decide +kernel
theorem dX9_seed_5 : decode cX9_seed 5 = .ok (.aload_n 0, 1) := by decide +kernel
theorem dX9_seed_6 : decode cX9_seed 6 = .ok (.iload_n 1, 1) := by decide +kernel
theorem dX9_seed_7 : decode cX9_seed 7 = .ok (.putfield 32, 3) := by decide +kernel
theorem dX9_seed_10 : decode cX9_seed 10 = .ok (.iload_n 2, 1) := by decide +kernel
theorem dX9_seed_11 : decode cX9_seed 11 = .ok (.ireturn, 1) := by decide +kernel
theorem dX9_image_0 : decode cX9_image 0 = .ok (.aload_n 0, 1) := by decide +kernel
theorem dX9_image_1 : decode cX9_image 1 = .ok (.iconst 1, 1) := by decide +kernel
theorem dX9_image_2 : decode cX9_image 2 = .ok (.putfield 289, 3) := by decide +kernel
theorem dX9_image_5 : decode cX9_image 5 = .ok (.aload_n 0, 1) := by decide +kernel
theorem dX9_image_6 : decode cX9_image 6 = .ok (.getfield 64, 3) := by decide +kernel
theorem dX9_image_9 : decode cX9_image 9 = .ok (.iconst 0, 1) := by decide +kernel
theorem dX9_image_10 : decode cX9_image 10 = .ok (.aload_n 0, 1) := by decide +kernel
theorem dX9_image_11 : decode cX9_image 11 = .ok (.getfield 13, 3) := by decide +kernel
theorem dX9_image_14 : decode cX9_image 14 = .ok (.iastore, 1) := by decide +kernel
theorem dX9_image_15 : decode cX9_image 15 = .ok (.aload_n 0, 1) := by decide +kernel
theorem dX9_image_16 : decode cX9_image 16 = .ok (.getfield 64, 3) := by decide +kernel
theorem dX9_image_19 : decode cX9_image 19 = .ok (.iconst 1, 1) := by decide +kernel
theorem dX9_image_20 : decode cX9_image 20 = .ok (.aload_n 0, 1) := by decide +kernel
theorem dX9_image_21 : decode cX9_image 21 = .ok (.getfield 72, 3) := by decide +kernel
theorem dX9_image_24 : decode cX9_image 24 = .ok (.iastore, 1) := by decide +kernel
theorem dX9_image_25 : decode cX9_image 25 = .ok (.aload_n 0, 1) := by decide +kernel
theorem dX9_image_26 : decode cX9_image 26 = .ok (.getfield 64, 3) := by decide +kernel
theorem dX9_image_29 : decode cX9_image 29 = .ok (.iconst 2, 1) := by decide +kernel
theorem dX9_image_30 : decode cX9_image 30 = .ok (.aload_n 0, 1) := by decide +kernel
theorem dX9_image_31 : decode cX9_image 31 = .ok (.getfield 32, 3) := by decide +kernel
theorem dX9_image_34 : decode cX9_image 34 = .ok (.iastore, 1) := by decide +kernel
theorem dX9_image_35 : decode cX9_image 35 = .ok (.iconst 0, 1) := by decide +kernel
theorem dX9_image_36 : decode cX9_image 36 = .ok (.istore_n 1, 1) := by decide +kernel
theorem dX9_image_37 : decode cX9_image 37 = .ok (.iload_n 1, 1) := by decide +kernel
theorem dX9_image_38 : decode cX9_image 38 = .ok (.bipush 12, 2) := by decide +kernel
theorem dX9_image_40 : decode cX9_image 40 = .ok (.if_icmp .ge 57, 3) := by decide +kernel
theorem dX9_image_43 : decode cX9_image 43 = .ok (.aload_n 0, 1) := by decide +kernel
theorem dX9_image_44 : decode cX9_image 44 = .ok (.getfield 64, 3) := by decide +kernel
theorem dX9_image_47 : decode cX9_image 47 = .ok (.iconst 3, 1) := by decide +kernel
theorem dX9_image_48 : decode cX9_image 48 = .ok (.iconst 3, 1) := by decide +kernel
theorem dX9_image_49 : decode cX9_image 49 = .ok (.iload_n 1, 1) := by decide +kernel
theorem dX9_image_50 : decode cX9_image 50 = .ok (.imul, 1) := by decide +kernel
theorem dX9_image_51 : decode cX9_image 51 = .ok (.iadd, 1) := by decide +kernel
theorem dX9_image_52 : decode cX9_image 52 = .ok (.aload_n 0, 1) := by decide +kernel
theorem dX9_image_53 : decode cX9_image 53 = .ok (.getfield 17, 3) := by decide +kernel
theorem dX9_image_56 : decode cX9_image 56 = .ok (.iload_n 1, 1) := by decide +kernel
theorem dX9_image_57 : decode cX9_image 57 = .ok (.iaload, 1) := by decide +kernel
theorem dX9_image_58 : decode cX9_image 58 = .ok (.iastore, 1) := by decide +kernel
theorem dX9_image_59 : decode cX9_image 59 = .ok (.aload_n 0, 1) := by decide +kernel
theorem dX9_image_60 : decode cX9_image 60 = .ok (.getfield 64, 3) := by decide +kernel
theorem dX9_image_63 : decode cX9_image 63 = .ok (.iconst 4, 1) := by decide +kernel
theorem dX9_image_64 : decode cX9_image 64 = .ok (.iconst 3, 1) := by decide +kernel
theorem dX9_image_65 : decode cX9_image 65 = .ok (.iload_n 1, 1) := by decide +kernel
theorem dX9_image_66 : decode cX9_image 66 = .ok (.imul, 1) := by decide +kernel
theorem dX9_image_67 : decode cX9_image 67 = .ok (.iadd, 1) := by decide +kernel
theorem dX9_image_68 : decode cX9_image 68 = .ok (.aload_n 0, 1) := by decide +kernel
theorem dX9_image_69 : decode cX9_image 69 = .ok (.getfield 20, 3) := by decide +kernel
theorem dX9_image_72 : decode cX9_image 72 = .ok (.iload_n 1, 1) := by decide +kernel
theorem dX9_image_73 : decode cX9_image 73 = .ok (.iaload, 1) := by decide +kernel
theorem dX9_image_74 : decode cX9_image 74 = .ok (.iastore, 1) := by decide +kernel
theorem dX9_image_75 : decode cX9_image 75 = .ok (.aload_n 0, 1) := by decide +kernel
theorem dX9_image_76 : decode cX9_image 76 = .ok (.getfield 64, 3) := by decide +kernel
theorem dX9_image_79 : decode cX9_image 79 = .ok (.iconst 5, 1) := by decide +kernel
theorem dX9_image_80 : decode cX9_image 80 = .ok (.iconst 3, 1) := by decide +kernel
theorem dX9_image_81 : decode cX9_image 81 = .ok (.iload_n 1, 1) := by decide +kernel
theorem dX9_image_82 : decode cX9_image 82 = .ok (.imul, 1) := by decide +kernel
theorem dX9_image_83 : decode cX9_image 83 = .ok (.iadd, 1) := by decide +kernel
theorem dX9_image_84 : decode cX9_image 84 = .ok (.aload_n 0, 1) := by decide +kernel
theorem dX9_image_85 : decode cX9_image 85 = .ok (.getfield 23, 3) := by decide +kernel
theorem dX9_image_88 : decode cX9_image 88 = .ok (.iload_n 1, 1) := by decide +kernel
theorem dX9_image_89 : decode cX9_image 89 = .ok (.iaload, 1) := by decide +kernel
theorem dX9_image_90 : decode cX9_image 90 = .ok (.iastore, 1) := by decide +kernel
theorem dX9_image_91 : decode cX9_image 91 = .ok (.iinc 1 1, 3) := by decide +kernel
theorem dX9_image_94 : decode cX9_image 94 = .ok (.goto (-57), 3) := by decide +kernel
theorem dX9_image_97 : decode cX9_image 97 = .ok (.aload_n 0, 1) := by decide +kernel
theorem dX9_image_98 : decode cX9_image 98 = .ok (.getfield 72, 3) := by decide +kernel
theorem dX9_image_101 : decode cX9_image 101 = .ok (.ireturn, 1) := by decide +kernel
theorem dX9_restore_0 : decode cX9_restore 0 = .ok (.aload_n 0, 1) := by decide +kernel
theorem dX9_restore_1 : decode cX9_restore 1 = .ok (.getfield 289, 3) := by decide +kernel
theorem dX9_restore_4 : decode cX9_restore 4 = .ok (.ifCond .ne 9, 3) := by decide +kernel
theorem dX9_restore_7 : decode cX9_restore 7 = .ok (.aload_n 0, 1) := by decide +kernel
theorem dX9_restore_8 : decode cX9_restore 8 = .ok (.iconst 2, 1) := by decide +kernel
theorem dX9_restore_9 : decode cX9_restore 9 = .ok (.invokevirtual 79, 3) := by decide +kernel
theorem dX9_restore_12 : decode cX9_restore 12 = .ok (.ireturn, 1) := by decide +kernel
theorem dX9_restore_13 : decode cX9_restore 13 = .ok (.aload_n 0, 1) := by decide +kernel
theorem dX9_restore_14 : decode cX9_restore 14 = .ok (.aload_n 0, 1) := by decide +kernel
theorem dX9_restore_15 : decode cX9_restore 15 = .ok (.getfield 64, 3) := by decide +kernel
theorem dX9_restore_18 : decode cX9_restore 18 = .ok (.iconst 0, 1) := by decide +kernel
theorem dX9_restore_19 : decode cX9_restore 19 = .ok (.iaload, 1) := by decide +kernel
theorem dX9_restore_20 : decode cX9_restore 20 = .ok (.putfield 13, 3) := by decide +kernel
theorem dX9_restore_23 : decode cX9_restore 23 = .ok (.aload_n 0, 1) := by decide +kernel
theorem dX9_restore_24 : decode cX9_restore 24 = .ok (.aload_n 0, 1) := by decide +kernel
theorem dX9_restore_25 : decode cX9_restore 25 = .ok (.getfield 64, 3) := by decide +kernel
theorem dX9_restore_28 : decode cX9_restore 28 = .ok (.iconst 1, 1) := by decide +kernel
theorem dX9_restore_29 : decode cX9_restore 29 = .ok (.iaload, 1) := by decide +kernel
theorem dX9_restore_30 : decode cX9_restore 30 = .ok (.putfield 72, 3) := by decide +kernel
theorem dX9_restore_33 : decode cX9_restore 33 = .ok (.aload_n 0, 1) := by decide +kernel
theorem dX9_restore_34 : decode cX9_restore 34 = .ok (.aload_n 0, 1) := by decide +kernel
theorem dX9_restore_35 : decode cX9_restore 35 = .ok (.getfield 64, 3) := by decide +kernel
theorem dX9_restore_38 : decode cX9_restore 38 = .ok (.iconst 2, 1) := by decide +kernel
theorem dX9_restore_39 : decode cX9_restore 39 = .ok (.iaload, 1) := by decide +kernel
theorem dX9_restore_40 : decode cX9_restore 40 = .ok (.putfield 32, 3) := by decide +kernel
theorem dX9_restore_43 : decode cX9_restore 43 = .ok (.iconst 0, 1) := by decide +kernel
theorem dX9_restore_44 : decode cX9_restore 44 = .ok (.istore_n 1, 1) := by decide +kernel
theorem dX9_restore_45 : decode cX9_restore 45 = .ok (.iload_n 1, 1) := by decide +kernel
theorem dX9_restore_46 : decode cX9_restore 46 = .ok (.bipush 12, 2) := by decide +kernel
theorem dX9_restore_48 : decode cX9_restore 48 = .ok (.if_icmp .ge 57, 3) := by decide +kernel
theorem dX9_restore_51 : decode cX9_restore 51 = .ok (.aload_n 0, 1) := by decide +kernel
theorem dX9_restore_52 : decode cX9_restore 52 = .ok (.getfield 17, 3) := by decide +kernel
theorem dX9_restore_55 : decode cX9_restore 55 = .ok (.iload_n 1, 1) := by decide +kernel
theorem dX9_restore_56 : decode cX9_restore 56 = .ok (.aload_n 0, 1) := by decide +kernel
theorem dX9_restore_57 : decode cX9_restore 57 = .ok (.getfield 64, 3) := by decide +kernel
theorem dX9_restore_60 : decode cX9_restore 60 = .ok (.iconst 3, 1) := by decide +kernel
theorem dX9_restore_61 : decode cX9_restore 61 = .ok (.iconst 3, 1) := by decide +kernel
theorem dX9_restore_62 : decode cX9_restore 62 = .ok (.iload_n 1, 1) := by decide +kernel
theorem dX9_restore_63 : decode cX9_restore 63 = .ok (.imul, 1) := by decide +kernel
theorem dX9_restore_64 : decode cX9_restore 64 = .ok (.iadd, 1) := by decide +kernel
theorem dX9_restore_65 : decode cX9_restore 65 = .ok (.iaload, 1) := by decide +kernel
theorem dX9_restore_66 : decode cX9_restore 66 = .ok (.iastore, 1) := by decide +kernel
theorem dX9_restore_67 : decode cX9_restore 67 = .ok (.aload_n 0, 1) := by decide +kernel
theorem dX9_restore_68 : decode cX9_restore 68 = .ok (.getfield 20, 3) := by decide +kernel
theorem dX9_restore_71 : decode cX9_restore 71 = .ok (.iload_n 1, 1) := by decide +kernel
theorem dX9_restore_72 : decode cX9_restore 72 = .ok (.aload_n 0, 1) := by decide +kernel
theorem dX9_restore_73 : decode cX9_restore 73 = .ok (.getfield 64, 3) := by decide +kernel
theorem dX9_restore_76 : decode cX9_restore 76 = .ok (.iconst 4, 1) := by decide +kernel
theorem dX9_restore_77 : decode cX9_restore 77 = .ok (.iconst 3, 1) := by decide +kernel
theorem dX9_restore_78 : decode cX9_restore 78 = .ok (.iload_n 1, 1) := by decide +kernel
theorem dX9_restore_79 : decode cX9_restore 79 = .ok (.imul, 1) := by decide +kernel
theorem dX9_restore_80 : decode cX9_restore 80 = .ok (.iadd, 1) := by decide +kernel
theorem dX9_restore_81 : decode cX9_restore 81 = .ok (.iaload, 1) := by decide +kernel
theorem dX9_restore_82 : decode cX9_restore 82 = .ok (.iastore, 1) := by decide +kernel
theorem dX9_restore_83 : decode cX9_restore 83 = .ok (.aload_n 0, 1) := by decide +kernel
theorem dX9_restore_84 : decode cX9_restore 84 = .ok (.getfield 23, 3) := by decide +kernel
theorem dX9_restore_87 : decode cX9_restore 87 = .ok (.iload_n 1, 1) := by decide +kernel
theorem dX9_restore_88 : decode cX9_restore 88 = .ok (.aload_n 0, 1) := by decide +kernel
theorem dX9_restore_89 : decode cX9_restore 89 = .ok (.getfield 64, 3) := by decide +kernel
theorem dX9_restore_92 : decode cX9_restore 92 = .ok (.iconst 5, 1) := by decide +kernel
theorem dX9_restore_93 : decode cX9_restore 93 = .ok (.iconst 3, 1) := by decide +kernel
theorem dX9_restore_94 : decode cX9_restore 94 = .ok (.iload_n 1, 1) := by decide +kernel
theorem dX9_restore_95 : decode cX9_restore 95 = .ok (.imul, 1) := by decide +kernel
theorem dX9_restore_96 : decode cX9_restore 96 = .ok (.iadd, 1) := by decide +kernel
theorem dX9_restore_97 : decode cX9_restore 97 = .ok (.iaload, 1) := by decide +kernel
theorem dX9_restore_98 : decode cX9_restore 98 = .ok (.iastore, 1) := by decide +kernel
theorem dX9_restore_99 : decode cX9_restore 99 = .ok (.iinc 1 1, 3) := by decide +kernel
theorem dX9_restore_102 : decode cX9_restore 102 = .ok (.goto (-57), 3) := by decide +kernel
theorem dX9_restore_105 : decode cX9_restore 105 = .ok (.aload_n 0, 1) := by decide +kernel
theorem dX9_restore_106 : decode cX9_restore 106 = .ok (.invokevirtual 83, 3) := by decide +kernel
theorem dX9_restore_109 : decode cX9_restore 109 = .ok (.aload_n 0, 1) := by decide +kernel
theorem dX9_restore_110 : decode cX9_restore 110 = .ok (.getfield 72, 3) := by decide +kernel
theorem dX9_restore_113 : decode cX9_restore 113 = .ok (.ireturn, 1) := by decide +kernel
theorem dX9_sheetsThere_0 : decode cX9_sheetsThere 0 = .ok (.iconst 0, 1) := by decide +kernel
theorem dX9_sheetsThere_1 : decode cX9_sheetsThere 1 = .ok (.istore_n 1, 1) := by decide +kernel
theorem dX9_sheetsThere_2 : decode cX9_sheetsThere 2 = .ok (.iconst 0, 1) := by decide +kernel
theorem dX9_sheetsThere_3 : decode cX9_sheetsThere 3 = .ok (.istore_n 2, 1) := by decide +kernel
theorem dX9_sheetsThere_4 : decode cX9_sheetsThere 4 = .ok (.iload_n 2, 1) := by decide +kernel
theorem dX9_sheetsThere_5 : decode cX9_sheetsThere 5 = .ok (.iconst 4, 1) := by decide +kernel
theorem dX9_sheetsThere_6 : decode cX9_sheetsThere 6 = .ok (.if_icmp .ge 26, 3) := by decide +kernel
theorem dX9_sheetsThere_9 : decode cX9_sheetsThere 9 = .ok (.iload_n 1, 1) := by decide +kernel
theorem dX9_sheetsThere_10 : decode cX9_sheetsThere 10 = .ok (.aload_n 0, 1) := by decide +kernel
theorem dX9_sheetsThere_11 : decode cX9_sheetsThere 11 = .ok (.getfield 55, 3) := by decide +kernel
theorem dX9_sheetsThere_14 : decode cX9_sheetsThere 14 = .ok (.iload_n 2, 1) := by decide +kernel
theorem dX9_sheetsThere_15 : decode cX9_sheetsThere 15 = .ok (.iaload, 1) := by decide +kernel
theorem dX9_sheetsThere_16 : decode cX9_sheetsThere 16 = .ok (.ifCond .ne 7, 3) := by decide +kernel
theorem dX9_sheetsThere_19 : decode cX9_sheetsThere 19 = .ok (.iconst 0, 1) := by decide +kernel
theorem dX9_sheetsThere_20 : decode cX9_sheetsThere 20 = .ok (.goto 4, 3) := by decide +kernel
theorem dX9_sheetsThere_23 : decode cX9_sheetsThere 23 = .ok (.iconst 1, 1) := by decide +kernel
theorem dX9_sheetsThere_24 : decode cX9_sheetsThere 24 = .ok (.iadd, 1) := by decide +kernel
theorem dX9_sheetsThere_25 : decode cX9_sheetsThere 25 = .ok (.istore_n 1, 1) := by decide +kernel
theorem dX9_sheetsThere_26 : decode cX9_sheetsThere 26 = .ok (.iinc 2 1, 3) := by decide +kernel
theorem dX9_sheetsThere_29 : decode cX9_sheetsThere 29 = .ok (.goto (-25), 3) := by decide +kernel
theorem dX9_sheetsThere_32 : decode cX9_sheetsThere 32 = .ok (.iload_n 1, 1) := by decide +kernel
theorem dX9_sheetsThere_33 : decode cX9_sheetsThere 33 = .ok (.ireturn, 1) := by decide +kernel
theorem dX9_count_0 : decode cX9_count 0 = .ok (.iload_n 1, 1) := by decide +kernel
theorem dX9_count_1 : decode cX9_count 1 = .ok (.tableswitch 77 0 5 #[39, 44, 49, 54, 67, 72], 39) := by decide +kernel
theorem dX9_count_40 : decode cX9_count 40 = .ok (.aload_n 0, 1) := by decide +kernel
theorem dX9_count_41 : decode cX9_count 41 = .ok (.getfield 13, 3) := by decide +kernel
theorem dX9_count_44 : decode cX9_count 44 = .ok (.ireturn, 1) := by decide +kernel
theorem dX9_count_45 : decode cX9_count 45 = .ok (.aload_n 0, 1) := by decide +kernel
theorem dX9_count_46 : decode cX9_count 46 = .ok (.getfield 72, 3) := by decide +kernel
theorem dX9_count_49 : decode cX9_count 49 = .ok (.ireturn, 1) := by decide +kernel
theorem dX9_count_50 : decode cX9_count 50 = .ok (.aload_n 0, 1) := by decide +kernel
theorem dX9_count_51 : decode cX9_count 51 = .ok (.getfield 139, 3) := by decide +kernel
theorem dX9_count_54 : decode cX9_count 54 = .ok (.ireturn, 1) := by decide +kernel
theorem dX9_count_55 : decode cX9_count 55 = .ok (.aload_n 0, 1) := by decide +kernel
theorem dX9_count_56 : decode cX9_count 56 = .ok (.getfield 75, 3) := by decide +kernel
theorem dX9_count_59 : decode cX9_count 59 = .ok (.ifCond .eq 7, 3) := by decide +kernel
theorem dX9_count_62 : decode cX9_count 62 = .ok (.iconst 1, 1) := by decide +kernel
theorem dX9_count_63 : decode cX9_count 63 = .ok (.goto 4, 3) := by decide +kernel
theorem dX9_count_66 : decode cX9_count 66 = .ok (.iconst 0, 1) := by decide +kernel
theorem dX9_count_67 : decode cX9_count 67 = .ok (.ireturn, 1) := by decide +kernel
theorem dX9_count_68 : decode cX9_count 68 = .ok (.aload_n 0, 1) := by decide +kernel
theorem dX9_count_69 : decode cX9_count 69 = .ok (.getfield 32, 3) := by decide +kernel
theorem dX9_count_72 : decode cX9_count 72 = .ok (.ireturn, 1) := by decide +kernel
theorem dX9_count_73 : decode cX9_count 73 = .ok (.aload_n 0, 1) := by decide +kernel
theorem dX9_count_74 : decode cX9_count 74 = .ok (.invokevirtual 292, 3) := by decide +kernel
theorem dX9_count_77 : decode cX9_count 77 = .ok (.ireturn, 1) := by decide +kernel
theorem dX9_count_78 : decode cX9_count 78 = .ok (.aload_n 0, 1) := by decide +kernel
theorem dX9_count_79 : decode cX9_count 79 = .ok (.iconst 1, 1) := by decide +kernel
theorem dX9_count_80 : decode cX9_count 80 = .ok (.invokevirtual 79, 3) := by decide +kernel
theorem dX9_count_83 : decode cX9_count 83 = .ok (.ireturn, 1) := by decide +kernel
theorem dX9_told_0 : decode cX9_told 0 = .ok (.iload_n 1, 1) := by decide +kernel
theorem dX9_told_1 : decode cX9_told 1 = .ok (.iconst 1, 1) := by decide +kernel
theorem dX9_told_2 : decode cX9_told 2 = .ok (.bipush 6, 2) := by decide +kernel
theorem dX9_told_4 : decode cX9_told 4 = .ok (.invokestatic 68, 3) := by decide +kernel
theorem dX9_told_7 : decode cX9_told 7 = .ok (.ifCond .eq 12, 3) := by decide +kernel
theorem dX9_told_10 : decode cX9_told 10 = .ok (.aload_n 0, 1) := by decide +kernel
theorem dX9_told_11 : decode cX9_told 11 = .ok (.getfield 7, 3) := by decide +kernel
theorem dX9_told_14 : decode cX9_told 14 = .ok (.iload_n 1, 1) := by decide +kernel
theorem dX9_told_15 : decode cX9_told 15 = .ok (.iaload, 1) := by decide +kernel
theorem dX9_told_16 : decode cX9_told 16 = .ok (.goto 8, 3) := by decide +kernel
theorem dX9_told_19 : decode cX9_told 19 = .ok (.aload_n 0, 1) := by decide +kernel
theorem dX9_told_20 : decode cX9_told 20 = .ok (.iconst 1, 1) := by decide +kernel
theorem dX9_told_21 : decode cX9_told 21 = .ok (.invokevirtual 79, 3) := by decide +kernel
theorem dX9_told_24 : decode cX9_told 24 = .ok (.ireturn, 1) := by decide +kernel
end
section
theorem dL_law_0 : decode cL_law 0 = .ok (.new 7, 3) := by decide +kernel
theorem dL_law_3 : decode cL_law 3 = .ok (.dup, 1) := by decide +kernel
theorem dL_law_4 : decode cL_law 4 = .ok (.invokespecial 9, 3) := by decide +kernel
theorem dL_law_7 : decode cL_law 7 = .ok (.astore_n 1, 1) := by decide +kernel
theorem dL_law_8 : decode cL_law 8 = .ok (.new 10, 3) := by decide +kernel
theorem dL_law_11 : decode cL_law 11 = .ok (.dup, 1) := by decide +kernel
theorem dL_law_12 : decode cL_law 12 = .ok (.invokespecial 12, 3) := by decide +kernel
theorem dL_law_15 : decode cL_law 15 = .ok (.astore_n 2, 1) := by decide +kernel
theorem dL_law_16 : decode cL_law 16 = .ok (.iconst 0, 1) := by decide +kernel
theorem dL_law_17 : decode cL_law 17 = .ok (.istore_n 3, 1) := by decide +kernel
theorem dL_law_18 : decode cL_law 18 = .ok (.iload_n 3, 1) := by decide +kernel
theorem dL_law_19 : decode cL_law 19 = .ok (.aload_n 0, 1) := by decide +kernel
theorem dL_law_20 : decode cL_law 20 = .ok (.arraylength, 1) := by decide +kernel
theorem dL_law_21 : decode cL_law 21 = .ok (.bipush 6, 2) := by decide +kernel
theorem dL_law_23 : decode cL_law 23 = .ok (.isub, 1) := by decide +kernel
theorem dL_law_24 : decode cL_law 24 = .ok (.if_icmp .gt 1219, 3) := by decide +kernel
theorem dL_law_27 : decode cL_law 27 = .ok (.aload_n 0, 1) := by decide +kernel
theorem dL_law_28 : decode cL_law 28 = .ok (.iload_n 3, 1) := by decide +kernel
theorem dL_law_29 : decode cL_law 29 = .ok (.iaload, 1) := by decide +kernel
theorem dL_law_30 : decode cL_law 30 = .ok (.bipush 63, 2) := by decide +kernel
theorem dL_law_32 : decode cL_law 32 = .ok (.iand, 1) := by decide +kernel
theorem dL_law_33 : decode cL_law 33 = .ok (.tableswitch 1204 0 36 #[163, 186, 229, 262, 285, 318, 351, 364, 397, 410, 433, 496, 509, 542, 565, 578, 601, 624, 647, 670, 683, 706, 729, 772, 815, 838, 861, 904, 947, 980, 1043, 1076, 1109, 1132, 1145, 1158, 1181], 163) := by decide +kernel
theorem dL_law_196 : decode cL_law 196 = .ok (.aload_n 1, 1) := by decide +kernel
theorem dL_law_197 : decode cL_law 197 = .ok (.aload_n 0, 1) := by decide +kernel
theorem dL_law_198 : decode cL_law 198 = .ok (.iload_n 3, 1) := by decide +kernel
theorem dL_law_199 : decode cL_law 199 = .ok (.iconst 1, 1) := by decide +kernel
theorem dL_law_200 : decode cL_law 200 = .ok (.iadd, 1) := by decide +kernel
theorem dL_law_201 : decode cL_law 201 = .ok (.iaload, 1) := by decide +kernel
theorem dL_law_202 : decode cL_law 202 = .ok (.invokevirtual 13, 3) := by decide +kernel
theorem dL_law_205 : decode cL_law 205 = .ok (.aload_n 2, 1) := by decide +kernel
theorem dL_law_206 : decode cL_law 206 = .ok (.aload_n 0, 1) := by decide +kernel
theorem dL_law_207 : decode cL_law 207 = .ok (.iload_n 3, 1) := by decide +kernel
theorem dL_law_208 : decode cL_law 208 = .ok (.iconst 1, 1) := by decide +kernel
theorem dL_law_209 : decode cL_law 209 = .ok (.iadd, 1) := by decide +kernel
theorem dL_law_210 : decode cL_law 210 = .ok (.iaload, 1) := by decide +kernel
theorem dL_law_211 : decode cL_law 211 = .ok (.invokevirtual 17, 3) := by decide +kernel
theorem dL_law_214 : decode cL_law 214 = .ok (.if_icmp .eq 1023, 3) := by decide +kernel
theorem dL_law_217 : decode cL_law 217 = .ok (.iconst 0, 1) := by decide +kernel
theorem dL_law_218 : decode cL_law 218 = .ok (.ireturn, 1) := by decide +kernel
theorem dL_law_219 : decode cL_law 219 = .ok (.aload_n 1, 1) := by decide +kernel
theorem dL_law_220 : decode cL_law 220 = .ok (.aload_n 0, 1) := by decide +kernel
theorem dL_law_221 : decode cL_law 221 = .ok (.iload_n 3, 1) := by decide +kernel
theorem dL_law_222 : decode cL_law 222 = .ok (.iconst 1, 1) := by decide +kernel
theorem dL_law_223 : decode cL_law 223 = .ok (.iadd, 1) := by decide +kernel
theorem dL_law_224 : decode cL_law 224 = .ok (.iaload, 1) := by decide +kernel
theorem dL_law_225 : decode cL_law 225 = .ok (.aload_n 0, 1) := by decide +kernel
theorem dL_law_226 : decode cL_law 226 = .ok (.iload_n 3, 1) := by decide +kernel
theorem dL_law_227 : decode cL_law 227 = .ok (.iconst 2, 1) := by decide +kernel
theorem dL_law_228 : decode cL_law 228 = .ok (.iadd, 1) := by decide +kernel
theorem dL_law_229 : decode cL_law 229 = .ok (.iaload, 1) := by decide +kernel
theorem dL_law_230 : decode cL_law 230 = .ok (.aload_n 0, 1) := by decide +kernel
theorem dL_law_231 : decode cL_law 231 = .ok (.iload_n 3, 1) := by decide +kernel
theorem dL_law_232 : decode cL_law 232 = .ok (.iconst 3, 1) := by decide +kernel
theorem dL_law_233 : decode cL_law 233 = .ok (.iadd, 1) := by decide +kernel
theorem dL_law_234 : decode cL_law 234 = .ok (.iaload, 1) := by decide +kernel
theorem dL_law_235 : decode cL_law 235 = .ok (.invokevirtual 18, 3) := by decide +kernel
theorem dL_law_238 : decode cL_law 238 = .ok (.aload_n 2, 1) := by decide +kernel
theorem dL_law_239 : decode cL_law 239 = .ok (.aload_n 0, 1) := by decide +kernel
theorem dL_law_240 : decode cL_law 240 = .ok (.iload_n 3, 1) := by decide +kernel
theorem dL_law_241 : decode cL_law 241 = .ok (.iconst 1, 1) := by decide +kernel
theorem dL_law_242 : decode cL_law 242 = .ok (.iadd, 1) := by decide +kernel
theorem dL_law_243 : decode cL_law 243 = .ok (.iaload, 1) := by decide +kernel
theorem dL_law_244 : decode cL_law 244 = .ok (.aload_n 0, 1) := by decide +kernel
theorem dL_law_245 : decode cL_law 245 = .ok (.iload_n 3, 1) := by decide +kernel
theorem dL_law_246 : decode cL_law 246 = .ok (.iconst 2, 1) := by decide +kernel
theorem dL_law_247 : decode cL_law 247 = .ok (.iadd, 1) := by decide +kernel
theorem dL_law_248 : decode cL_law 248 = .ok (.iaload, 1) := by decide +kernel
theorem dL_law_249 : decode cL_law 249 = .ok (.aload_n 0, 1) := by decide +kernel
theorem dL_law_250 : decode cL_law 250 = .ok (.iload_n 3, 1) := by decide +kernel
theorem dL_law_251 : decode cL_law 251 = .ok (.iconst 3, 1) := by decide +kernel
theorem dL_law_252 : decode cL_law 252 = .ok (.iadd, 1) := by decide +kernel
theorem dL_law_253 : decode cL_law 253 = .ok (.iaload, 1) := by decide +kernel
theorem dL_law_254 : decode cL_law 254 = .ok (.invokevirtual 22, 3) := by decide +kernel
theorem dL_law_257 : decode cL_law 257 = .ok (.if_icmp .eq 980, 3) := by decide +kernel
theorem dL_law_260 : decode cL_law 260 = .ok (.iconst 0, 1) := by decide +kernel
theorem dL_law_261 : decode cL_law 261 = .ok (.ireturn, 1) := by decide +kernel
theorem dL_law_262 : decode cL_law 262 = .ok (.aload_n 1, 1) := by decide +kernel
theorem dL_law_263 : decode cL_law 263 = .ok (.aload_n 0, 1) := by decide +kernel
theorem dL_law_264 : decode cL_law 264 = .ok (.iload_n 3, 1) := by decide +kernel
theorem dL_law_265 : decode cL_law 265 = .ok (.iconst 1, 1) := by decide +kernel
theorem dL_law_266 : decode cL_law 266 = .ok (.iadd, 1) := by decide +kernel
theorem dL_law_267 : decode cL_law 267 = .ok (.iaload, 1) := by decide +kernel
theorem dL_law_268 : decode cL_law 268 = .ok (.aload_n 0, 1) := by decide +kernel
theorem dL_law_269 : decode cL_law 269 = .ok (.iload_n 3, 1) := by decide +kernel
theorem dL_law_270 : decode cL_law 270 = .ok (.iconst 2, 1) := by decide +kernel
theorem dL_law_271 : decode cL_law 271 = .ok (.iadd, 1) := by decide +kernel
theorem dL_law_272 : decode cL_law 272 = .ok (.iaload, 1) := by decide +kernel
theorem dL_law_273 : decode cL_law 273 = .ok (.invokevirtual 23, 3) := by decide +kernel
theorem dL_law_276 : decode cL_law 276 = .ok (.aload_n 2, 1) := by decide +kernel
theorem dL_law_277 : decode cL_law 277 = .ok (.aload_n 0, 1) := by decide +kernel
theorem dL_law_278 : decode cL_law 278 = .ok (.iload_n 3, 1) := by decide +kernel
theorem dL_law_279 : decode cL_law 279 = .ok (.iconst 1, 1) := by decide +kernel
theorem dL_law_280 : decode cL_law 280 = .ok (.iadd, 1) := by decide +kernel
theorem dL_law_281 : decode cL_law 281 = .ok (.iaload, 1) := by decide +kernel
theorem dL_law_282 : decode cL_law 282 = .ok (.aload_n 0, 1) := by decide +kernel
theorem dL_law_283 : decode cL_law 283 = .ok (.iload_n 3, 1) := by decide +kernel
theorem dL_law_284 : decode cL_law 284 = .ok (.iconst 2, 1) := by decide +kernel
theorem dL_law_285 : decode cL_law 285 = .ok (.iadd, 1) := by decide +kernel
theorem dL_law_286 : decode cL_law 286 = .ok (.iaload, 1) := by decide +kernel
theorem dL_law_287 : decode cL_law 287 = .ok (.invokevirtual 27, 3) := by decide +kernel
theorem dL_law_290 : decode cL_law 290 = .ok (.if_icmp .eq 947, 3) := by decide +kernel
theorem dL_law_293 : decode cL_law 293 = .ok (.iconst 0, 1) := by decide +kernel
theorem dL_law_294 : decode cL_law 294 = .ok (.ireturn, 1) := by decide +kernel
theorem dL_law_295 : decode cL_law 295 = .ok (.aload_n 1, 1) := by decide +kernel
theorem dL_law_296 : decode cL_law 296 = .ok (.aload_n 0, 1) := by decide +kernel
theorem dL_law_297 : decode cL_law 297 = .ok (.iload_n 3, 1) := by decide +kernel
theorem dL_law_298 : decode cL_law 298 = .ok (.iconst 1, 1) := by decide +kernel
theorem dL_law_299 : decode cL_law 299 = .ok (.iadd, 1) := by decide +kernel
theorem dL_law_300 : decode cL_law 300 = .ok (.iaload, 1) := by decide +kernel
theorem dL_law_301 : decode cL_law 301 = .ok (.invokevirtual 28, 3) := by decide +kernel
theorem dL_law_304 : decode cL_law 304 = .ok (.aload_n 2, 1) := by decide +kernel
theorem dL_law_305 : decode cL_law 305 = .ok (.aload_n 0, 1) := by decide +kernel
theorem dL_law_306 : decode cL_law 306 = .ok (.iload_n 3, 1) := by decide +kernel
theorem dL_law_307 : decode cL_law 307 = .ok (.iconst 1, 1) := by decide +kernel
theorem dL_law_308 : decode cL_law 308 = .ok (.iadd, 1) := by decide +kernel
theorem dL_law_309 : decode cL_law 309 = .ok (.iaload, 1) := by decide +kernel
theorem dL_law_310 : decode cL_law 310 = .ok (.invokevirtual 31, 3) := by decide +kernel
theorem dL_law_313 : decode cL_law 313 = .ok (.if_icmp .eq 924, 3) := by decide +kernel
theorem dL_law_316 : decode cL_law 316 = .ok (.iconst 0, 1) := by decide +kernel
theorem dL_law_317 : decode cL_law 317 = .ok (.ireturn, 1) := by decide +kernel
theorem dL_law_318 : decode cL_law 318 = .ok (.aload_n 1, 1) := by decide +kernel
theorem dL_law_319 : decode cL_law 319 = .ok (.aload_n 0, 1) := by decide +kernel
theorem dL_law_320 : decode cL_law 320 = .ok (.iload_n 3, 1) := by decide +kernel
theorem dL_law_321 : decode cL_law 321 = .ok (.iconst 1, 1) := by decide +kernel
theorem dL_law_322 : decode cL_law 322 = .ok (.iadd, 1) := by decide +kernel
theorem dL_law_323 : decode cL_law 323 = .ok (.iaload, 1) := by decide +kernel
theorem dL_law_324 : decode cL_law 324 = .ok (.aload_n 0, 1) := by decide +kernel
theorem dL_law_325 : decode cL_law 325 = .ok (.iload_n 3, 1) := by decide +kernel
theorem dL_law_326 : decode cL_law 326 = .ok (.iconst 2, 1) := by decide +kernel
theorem dL_law_327 : decode cL_law 327 = .ok (.iadd, 1) := by decide +kernel
theorem dL_law_328 : decode cL_law 328 = .ok (.iaload, 1) := by decide +kernel
theorem dL_law_329 : decode cL_law 329 = .ok (.invokevirtual 32, 3) := by decide +kernel
theorem dL_law_332 : decode cL_law 332 = .ok (.aload_n 2, 1) := by decide +kernel
theorem dL_law_333 : decode cL_law 333 = .ok (.aload_n 0, 1) := by decide +kernel
theorem dL_law_334 : decode cL_law 334 = .ok (.iload_n 3, 1) := by decide +kernel
theorem dL_law_335 : decode cL_law 335 = .ok (.iconst 1, 1) := by decide +kernel
theorem dL_law_336 : decode cL_law 336 = .ok (.iadd, 1) := by decide +kernel
theorem dL_law_337 : decode cL_law 337 = .ok (.iaload, 1) := by decide +kernel
theorem dL_law_338 : decode cL_law 338 = .ok (.aload_n 0, 1) := by decide +kernel
theorem dL_law_339 : decode cL_law 339 = .ok (.iload_n 3, 1) := by decide +kernel
theorem dL_law_340 : decode cL_law 340 = .ok (.iconst 2, 1) := by decide +kernel
theorem dL_law_341 : decode cL_law 341 = .ok (.iadd, 1) := by decide +kernel
theorem dL_law_342 : decode cL_law 342 = .ok (.iaload, 1) := by decide +kernel
theorem dL_law_343 : decode cL_law 343 = .ok (.invokevirtual 35, 3) := by decide +kernel
theorem dL_law_346 : decode cL_law 346 = .ok (.if_icmp .eq 891, 3) := by decide +kernel
theorem dL_law_349 : decode cL_law 349 = .ok (.iconst 0, 1) := by decide +kernel
theorem dL_law_350 : decode cL_law 350 = .ok (.ireturn, 1) := by decide +kernel
theorem dL_law_351 : decode cL_law 351 = .ok (.aload_n 1, 1) := by decide +kernel
theorem dL_law_352 : decode cL_law 352 = .ok (.aload_n 0, 1) := by decide +kernel
theorem dL_law_353 : decode cL_law 353 = .ok (.iload_n 3, 1) := by decide +kernel
theorem dL_law_354 : decode cL_law 354 = .ok (.iconst 1, 1) := by decide +kernel
theorem dL_law_355 : decode cL_law 355 = .ok (.iadd, 1) := by decide +kernel
theorem dL_law_356 : decode cL_law 356 = .ok (.iaload, 1) := by decide +kernel
theorem dL_law_357 : decode cL_law 357 = .ok (.aload_n 0, 1) := by decide +kernel
theorem dL_law_358 : decode cL_law 358 = .ok (.iload_n 3, 1) := by decide +kernel
theorem dL_law_359 : decode cL_law 359 = .ok (.iconst 2, 1) := by decide +kernel
theorem dL_law_360 : decode cL_law 360 = .ok (.iadd, 1) := by decide +kernel
theorem dL_law_361 : decode cL_law 361 = .ok (.iaload, 1) := by decide +kernel
theorem dL_law_362 : decode cL_law 362 = .ok (.invokevirtual 36, 3) := by decide +kernel
theorem dL_law_365 : decode cL_law 365 = .ok (.aload_n 2, 1) := by decide +kernel
theorem dL_law_366 : decode cL_law 366 = .ok (.aload_n 0, 1) := by decide +kernel
theorem dL_law_367 : decode cL_law 367 = .ok (.iload_n 3, 1) := by decide +kernel
theorem dL_law_368 : decode cL_law 368 = .ok (.iconst 1, 1) := by decide +kernel
theorem dL_law_369 : decode cL_law 369 = .ok (.iadd, 1) := by decide +kernel
theorem dL_law_370 : decode cL_law 370 = .ok (.iaload, 1) := by decide +kernel
theorem dL_law_371 : decode cL_law 371 = .ok (.aload_n 0, 1) := by decide +kernel
theorem dL_law_372 : decode cL_law 372 = .ok (.iload_n 3, 1) := by decide +kernel
theorem dL_law_373 : decode cL_law 373 = .ok (.iconst 2, 1) := by decide +kernel
theorem dL_law_374 : decode cL_law 374 = .ok (.iadd, 1) := by decide +kernel
theorem dL_law_375 : decode cL_law 375 = .ok (.iaload, 1) := by decide +kernel
theorem dL_law_376 : decode cL_law 376 = .ok (.invokevirtual 39, 3) := by decide +kernel
theorem dL_law_379 : decode cL_law 379 = .ok (.if_icmp .eq 858, 3) := by decide +kernel
theorem dL_law_382 : decode cL_law 382 = .ok (.iconst 0, 1) := by decide +kernel
theorem dL_law_383 : decode cL_law 383 = .ok (.ireturn, 1) := by decide +kernel
theorem dL_law_384 : decode cL_law 384 = .ok (.aload_n 1, 1) := by decide +kernel
theorem dL_law_385 : decode cL_law 385 = .ok (.invokevirtual 40, 3) := by decide +kernel
theorem dL_law_388 : decode cL_law 388 = .ok (.aload_n 2, 1) := by decide +kernel
theorem dL_law_389 : decode cL_law 389 = .ok (.invokevirtual 44, 3) := by decide +kernel
theorem dL_law_392 : decode cL_law 392 = .ok (.if_icmp .eq 845, 3) := by decide +kernel
theorem dL_law_395 : decode cL_law 395 = .ok (.iconst 0, 1) := by decide +kernel
theorem dL_law_396 : decode cL_law 396 = .ok (.ireturn, 1) := by decide +kernel
theorem dL_law_397 : decode cL_law 397 = .ok (.aload_n 1, 1) := by decide +kernel
theorem dL_law_398 : decode cL_law 398 = .ok (.aload_n 0, 1) := by decide +kernel
theorem dL_law_399 : decode cL_law 399 = .ok (.iload_n 3, 1) := by decide +kernel
theorem dL_law_400 : decode cL_law 400 = .ok (.iconst 1, 1) := by decide +kernel
theorem dL_law_401 : decode cL_law 401 = .ok (.iadd, 1) := by decide +kernel
theorem dL_law_402 : decode cL_law 402 = .ok (.iaload, 1) := by decide +kernel
theorem dL_law_403 : decode cL_law 403 = .ok (.aload_n 0, 1) := by decide +kernel
theorem dL_law_404 : decode cL_law 404 = .ok (.iload_n 3, 1) := by decide +kernel
theorem dL_law_405 : decode cL_law 405 = .ok (.iconst 2, 1) := by decide +kernel
theorem dL_law_406 : decode cL_law 406 = .ok (.iadd, 1) := by decide +kernel
theorem dL_law_407 : decode cL_law 407 = .ok (.iaload, 1) := by decide +kernel
theorem dL_law_408 : decode cL_law 408 = .ok (.invokevirtual 45, 3) := by decide +kernel
theorem dL_law_411 : decode cL_law 411 = .ok (.aload_n 2, 1) := by decide +kernel
theorem dL_law_412 : decode cL_law 412 = .ok (.aload_n 0, 1) := by decide +kernel
theorem dL_law_413 : decode cL_law 413 = .ok (.iload_n 3, 1) := by decide +kernel
theorem dL_law_414 : decode cL_law 414 = .ok (.iconst 1, 1) := by decide +kernel
theorem dL_law_415 : decode cL_law 415 = .ok (.iadd, 1) := by decide +kernel
theorem dL_law_416 : decode cL_law 416 = .ok (.iaload, 1) := by decide +kernel
theorem dL_law_417 : decode cL_law 417 = .ok (.aload_n 0, 1) := by decide +kernel
theorem dL_law_418 : decode cL_law 418 = .ok (.iload_n 3, 1) := by decide +kernel
theorem dL_law_419 : decode cL_law 419 = .ok (.iconst 2, 1) := by decide +kernel
theorem dL_law_420 : decode cL_law 420 = .ok (.iadd, 1) := by decide +kernel
theorem dL_law_421 : decode cL_law 421 = .ok (.iaload, 1) := by decide +kernel
theorem dL_law_422 : decode cL_law 422 = .ok (.invokevirtual 48, 3) := by decide +kernel
theorem dL_law_425 : decode cL_law 425 = .ok (.if_icmp .eq 812, 3) := by decide +kernel
theorem dL_law_428 : decode cL_law 428 = .ok (.iconst 0, 1) := by decide +kernel
theorem dL_law_429 : decode cL_law 429 = .ok (.ireturn, 1) := by decide +kernel
theorem dL_law_430 : decode cL_law 430 = .ok (.aload_n 1, 1) := by decide +kernel
theorem dL_law_431 : decode cL_law 431 = .ok (.invokevirtual 49, 3) := by decide +kernel
theorem dL_law_434 : decode cL_law 434 = .ok (.aload_n 2, 1) := by decide +kernel
theorem dL_law_435 : decode cL_law 435 = .ok (.invokevirtual 52, 3) := by decide +kernel
theorem dL_law_438 : decode cL_law 438 = .ok (.if_icmp .eq 799, 3) := by decide +kernel
theorem dL_law_441 : decode cL_law 441 = .ok (.iconst 0, 1) := by decide +kernel
theorem dL_law_442 : decode cL_law 442 = .ok (.ireturn, 1) := by decide +kernel
theorem dL_law_443 : decode cL_law 443 = .ok (.aload_n 1, 1) := by decide +kernel
theorem dL_law_444 : decode cL_law 444 = .ok (.aload_n 0, 1) := by decide +kernel
theorem dL_law_445 : decode cL_law 445 = .ok (.iload_n 3, 1) := by decide +kernel
theorem dL_law_446 : decode cL_law 446 = .ok (.iconst 1, 1) := by decide +kernel
theorem dL_law_447 : decode cL_law 447 = .ok (.iadd, 1) := by decide +kernel
theorem dL_law_448 : decode cL_law 448 = .ok (.iaload, 1) := by decide +kernel
theorem dL_law_449 : decode cL_law 449 = .ok (.invokevirtual 53, 3) := by decide +kernel
theorem dL_law_452 : decode cL_law 452 = .ok (.aload_n 2, 1) := by decide +kernel
theorem dL_law_453 : decode cL_law 453 = .ok (.aload_n 0, 1) := by decide +kernel
theorem dL_law_454 : decode cL_law 454 = .ok (.iload_n 3, 1) := by decide +kernel
theorem dL_law_455 : decode cL_law 455 = .ok (.iconst 1, 1) := by decide +kernel
theorem dL_law_456 : decode cL_law 456 = .ok (.iadd, 1) := by decide +kernel
theorem dL_law_457 : decode cL_law 457 = .ok (.iaload, 1) := by decide +kernel
theorem dL_law_458 : decode cL_law 458 = .ok (.invokevirtual 56, 3) := by decide +kernel
theorem dL_law_461 : decode cL_law 461 = .ok (.if_icmp .eq 776, 3) := by decide +kernel
theorem dL_law_464 : decode cL_law 464 = .ok (.iconst 0, 1) := by decide +kernel
theorem dL_law_465 : decode cL_law 465 = .ok (.ireturn, 1) := by decide +kernel
theorem dL_law_466 : decode cL_law 466 = .ok (.aload_n 1, 1) := by decide +kernel
theorem dL_law_467 : decode cL_law 467 = .ok (.aload_n 0, 1) := by decide +kernel
theorem dL_law_468 : decode cL_law 468 = .ok (.iload_n 3, 1) := by decide +kernel
theorem dL_law_469 : decode cL_law 469 = .ok (.iconst 1, 1) := by decide +kernel
theorem dL_law_470 : decode cL_law 470 = .ok (.iadd, 1) := by decide +kernel
theorem dL_law_471 : decode cL_law 471 = .ok (.iaload, 1) := by decide +kernel
theorem dL_law_472 : decode cL_law 472 = .ok (.i2l, 1) := by decide +kernel
theorem dL_law_473 : decode cL_law 473 = .ok (.bipush 32, 2) := by decide +kernel
theorem dL_law_475 : decode cL_law 475 = .ok (.lshl, 1) := by decide +kernel
theorem dL_law_476 : decode cL_law 476 = .ok (.aload_n 0, 1) := by decide +kernel
theorem dL_law_477 : decode cL_law 477 = .ok (.iload_n 3, 1) := by decide +kernel
theorem dL_law_478 : decode cL_law 478 = .ok (.iconst 2, 1) := by decide +kernel
theorem dL_law_479 : decode cL_law 479 = .ok (.iadd, 1) := by decide +kernel
theorem dL_law_480 : decode cL_law 480 = .ok (.iaload, 1) := by decide +kernel
theorem dL_law_481 : decode cL_law 481 = .ok (.i2l, 1) := by decide +kernel
theorem dL_law_482 : decode cL_law 482 = .ok (.ldc2_w 57, 3) := by decide +kernel
theorem dL_law_485 : decode cL_law 485 = .ok (.land, 1) := by decide +kernel
theorem dL_law_486 : decode cL_law 486 = .ok (.lor, 1) := by decide +kernel
theorem dL_law_487 : decode cL_law 487 = .ok (.aload_n 0, 1) := by decide +kernel
theorem dL_law_488 : decode cL_law 488 = .ok (.iload_n 3, 1) := by decide +kernel
theorem dL_law_489 : decode cL_law 489 = .ok (.iconst 3, 1) := by decide +kernel
theorem dL_law_490 : decode cL_law 490 = .ok (.iadd, 1) := by decide +kernel
theorem dL_law_491 : decode cL_law 491 = .ok (.iaload, 1) := by decide +kernel
theorem dL_law_492 : decode cL_law 492 = .ok (.invokevirtual 59, 3) := by decide +kernel
theorem dL_law_495 : decode cL_law 495 = .ok (.aload_n 2, 1) := by decide +kernel
theorem dL_law_496 : decode cL_law 496 = .ok (.aload_n 0, 1) := by decide +kernel
theorem dL_law_497 : decode cL_law 497 = .ok (.iload_n 3, 1) := by decide +kernel
theorem dL_law_498 : decode cL_law 498 = .ok (.iconst 1, 1) := by decide +kernel
theorem dL_law_499 : decode cL_law 499 = .ok (.iadd, 1) := by decide +kernel
theorem dL_law_500 : decode cL_law 500 = .ok (.iaload, 1) := by decide +kernel
theorem dL_law_501 : decode cL_law 501 = .ok (.i2l, 1) := by decide +kernel
theorem dL_law_502 : decode cL_law 502 = .ok (.bipush 32, 2) := by decide +kernel
theorem dL_law_504 : decode cL_law 504 = .ok (.lshl, 1) := by decide +kernel
theorem dL_law_505 : decode cL_law 505 = .ok (.aload_n 0, 1) := by decide +kernel
theorem dL_law_506 : decode cL_law 506 = .ok (.iload_n 3, 1) := by decide +kernel
theorem dL_law_507 : decode cL_law 507 = .ok (.iconst 2, 1) := by decide +kernel
theorem dL_law_508 : decode cL_law 508 = .ok (.iadd, 1) := by decide +kernel
theorem dL_law_509 : decode cL_law 509 = .ok (.iaload, 1) := by decide +kernel
theorem dL_law_510 : decode cL_law 510 = .ok (.i2l, 1) := by decide +kernel
theorem dL_law_511 : decode cL_law 511 = .ok (.ldc2_w 57, 3) := by decide +kernel
theorem dL_law_514 : decode cL_law 514 = .ok (.land, 1) := by decide +kernel
theorem dL_law_515 : decode cL_law 515 = .ok (.lor, 1) := by decide +kernel
theorem dL_law_516 : decode cL_law 516 = .ok (.aload_n 0, 1) := by decide +kernel
theorem dL_law_517 : decode cL_law 517 = .ok (.iload_n 3, 1) := by decide +kernel
theorem dL_law_518 : decode cL_law 518 = .ok (.iconst 3, 1) := by decide +kernel
theorem dL_law_519 : decode cL_law 519 = .ok (.iadd, 1) := by decide +kernel
theorem dL_law_520 : decode cL_law 520 = .ok (.iaload, 1) := by decide +kernel
theorem dL_law_521 : decode cL_law 521 = .ok (.invokevirtual 63, 3) := by decide +kernel
theorem dL_law_524 : decode cL_law 524 = .ok (.if_icmp .eq 713, 3) := by decide +kernel
theorem dL_law_527 : decode cL_law 527 = .ok (.iconst 0, 1) := by decide +kernel
theorem dL_law_528 : decode cL_law 528 = .ok (.ireturn, 1) := by decide +kernel
theorem dL_law_529 : decode cL_law 529 = .ok (.aload_n 1, 1) := by decide +kernel
theorem dL_law_530 : decode cL_law 530 = .ok (.invokevirtual 64, 3) := by decide +kernel
theorem dL_law_533 : decode cL_law 533 = .ok (.aload_n 2, 1) := by decide +kernel
theorem dL_law_534 : decode cL_law 534 = .ok (.invokevirtual 67, 3) := by decide +kernel
theorem dL_law_537 : decode cL_law 537 = .ok (.if_icmp .eq 700, 3) := by decide +kernel
theorem dL_law_540 : decode cL_law 540 = .ok (.iconst 0, 1) := by decide +kernel
theorem dL_law_541 : decode cL_law 541 = .ok (.ireturn, 1) := by decide +kernel
theorem dL_law_542 : decode cL_law 542 = .ok (.aload_n 1, 1) := by decide +kernel
theorem dL_law_543 : decode cL_law 543 = .ok (.aload_n 0, 1) := by decide +kernel
theorem dL_law_544 : decode cL_law 544 = .ok (.iload_n 3, 1) := by decide +kernel
theorem dL_law_545 : decode cL_law 545 = .ok (.iconst 1, 1) := by decide +kernel
theorem dL_law_546 : decode cL_law 546 = .ok (.iadd, 1) := by decide +kernel
theorem dL_law_547 : decode cL_law 547 = .ok (.iaload, 1) := by decide +kernel
theorem dL_law_548 : decode cL_law 548 = .ok (.aload_n 0, 1) := by decide +kernel
theorem dL_law_549 : decode cL_law 549 = .ok (.iload_n 3, 1) := by decide +kernel
theorem dL_law_550 : decode cL_law 550 = .ok (.iconst 2, 1) := by decide +kernel
theorem dL_law_551 : decode cL_law 551 = .ok (.iadd, 1) := by decide +kernel
theorem dL_law_552 : decode cL_law 552 = .ok (.iaload, 1) := by decide +kernel
theorem dL_law_553 : decode cL_law 553 = .ok (.invokevirtual 68, 3) := by decide +kernel
theorem dL_law_556 : decode cL_law 556 = .ok (.aload_n 2, 1) := by decide +kernel
theorem dL_law_557 : decode cL_law 557 = .ok (.aload_n 0, 1) := by decide +kernel
theorem dL_law_558 : decode cL_law 558 = .ok (.iload_n 3, 1) := by decide +kernel
theorem dL_law_559 : decode cL_law 559 = .ok (.iconst 1, 1) := by decide +kernel
theorem dL_law_560 : decode cL_law 560 = .ok (.iadd, 1) := by decide +kernel
theorem dL_law_561 : decode cL_law 561 = .ok (.iaload, 1) := by decide +kernel
theorem dL_law_562 : decode cL_law 562 = .ok (.aload_n 0, 1) := by decide +kernel
theorem dL_law_563 : decode cL_law 563 = .ok (.iload_n 3, 1) := by decide +kernel
theorem dL_law_564 : decode cL_law 564 = .ok (.iconst 2, 1) := by decide +kernel
theorem dL_law_565 : decode cL_law 565 = .ok (.iadd, 1) := by decide +kernel
theorem dL_law_566 : decode cL_law 566 = .ok (.iaload, 1) := by decide +kernel
theorem dL_law_567 : decode cL_law 567 = .ok (.invokevirtual 71, 3) := by decide +kernel
theorem dL_law_570 : decode cL_law 570 = .ok (.if_icmp .eq 667, 3) := by decide +kernel
theorem dL_law_573 : decode cL_law 573 = .ok (.iconst 0, 1) := by decide +kernel
theorem dL_law_574 : decode cL_law 574 = .ok (.ireturn, 1) := by decide +kernel
theorem dL_law_575 : decode cL_law 575 = .ok (.aload_n 1, 1) := by decide +kernel
theorem dL_law_576 : decode cL_law 576 = .ok (.aload_n 0, 1) := by decide +kernel
theorem dL_law_577 : decode cL_law 577 = .ok (.iload_n 3, 1) := by decide +kernel
theorem dL_law_578 : decode cL_law 578 = .ok (.iconst 1, 1) := by decide +kernel
theorem dL_law_579 : decode cL_law 579 = .ok (.iadd, 1) := by decide +kernel
theorem dL_law_580 : decode cL_law 580 = .ok (.iaload, 1) := by decide +kernel
theorem dL_law_581 : decode cL_law 581 = .ok (.invokevirtual 72, 3) := by decide +kernel
theorem dL_law_584 : decode cL_law 584 = .ok (.aload_n 2, 1) := by decide +kernel
theorem dL_law_585 : decode cL_law 585 = .ok (.aload_n 0, 1) := by decide +kernel
theorem dL_law_586 : decode cL_law 586 = .ok (.iload_n 3, 1) := by decide +kernel
theorem dL_law_587 : decode cL_law 587 = .ok (.iconst 1, 1) := by decide +kernel
theorem dL_law_588 : decode cL_law 588 = .ok (.iadd, 1) := by decide +kernel
theorem dL_law_589 : decode cL_law 589 = .ok (.iaload, 1) := by decide +kernel
theorem dL_law_590 : decode cL_law 590 = .ok (.invokevirtual 75, 3) := by decide +kernel
theorem dL_law_593 : decode cL_law 593 = .ok (.if_icmp .eq 644, 3) := by decide +kernel
theorem dL_law_596 : decode cL_law 596 = .ok (.iconst 0, 1) := by decide +kernel
theorem dL_law_597 : decode cL_law 597 = .ok (.ireturn, 1) := by decide +kernel
theorem dL_law_598 : decode cL_law 598 = .ok (.aload_n 1, 1) := by decide +kernel
theorem dL_law_599 : decode cL_law 599 = .ok (.invokevirtual 76, 3) := by decide +kernel
theorem dL_law_602 : decode cL_law 602 = .ok (.aload_n 2, 1) := by decide +kernel
theorem dL_law_603 : decode cL_law 603 = .ok (.invokevirtual 79, 3) := by decide +kernel
theorem dL_law_606 : decode cL_law 606 = .ok (.if_icmp .eq 631, 3) := by decide +kernel
theorem dL_law_609 : decode cL_law 609 = .ok (.iconst 0, 1) := by decide +kernel
theorem dL_law_610 : decode cL_law 610 = .ok (.ireturn, 1) := by decide +kernel
theorem dL_law_611 : decode cL_law 611 = .ok (.aload_n 1, 1) := by decide +kernel
theorem dL_law_612 : decode cL_law 612 = .ok (.aload_n 0, 1) := by decide +kernel
theorem dL_law_613 : decode cL_law 613 = .ok (.iload_n 3, 1) := by decide +kernel
theorem dL_law_614 : decode cL_law 614 = .ok (.iconst 1, 1) := by decide +kernel
theorem dL_law_615 : decode cL_law 615 = .ok (.iadd, 1) := by decide +kernel
theorem dL_law_616 : decode cL_law 616 = .ok (.iaload, 1) := by decide +kernel
theorem dL_law_617 : decode cL_law 617 = .ok (.invokevirtual 80, 3) := by decide +kernel
theorem dL_law_620 : decode cL_law 620 = .ok (.aload_n 2, 1) := by decide +kernel
theorem dL_law_621 : decode cL_law 621 = .ok (.aload_n 0, 1) := by decide +kernel
theorem dL_law_622 : decode cL_law 622 = .ok (.iload_n 3, 1) := by decide +kernel
theorem dL_law_623 : decode cL_law 623 = .ok (.iconst 1, 1) := by decide +kernel
theorem dL_law_624 : decode cL_law 624 = .ok (.iadd, 1) := by decide +kernel
theorem dL_law_625 : decode cL_law 625 = .ok (.iaload, 1) := by decide +kernel
theorem dL_law_626 : decode cL_law 626 = .ok (.invokevirtual 83, 3) := by decide +kernel
theorem dL_law_629 : decode cL_law 629 = .ok (.if_icmp .eq 608, 3) := by decide +kernel
theorem dL_law_632 : decode cL_law 632 = .ok (.iconst 0, 1) := by decide +kernel
theorem dL_law_633 : decode cL_law 633 = .ok (.ireturn, 1) := by decide +kernel
theorem dL_law_634 : decode cL_law 634 = .ok (.aload_n 1, 1) := by decide +kernel
theorem dL_law_635 : decode cL_law 635 = .ok (.aload_n 0, 1) := by decide +kernel
theorem dL_law_636 : decode cL_law 636 = .ok (.iload_n 3, 1) := by decide +kernel
theorem dL_law_637 : decode cL_law 637 = .ok (.iconst 1, 1) := by decide +kernel
theorem dL_law_638 : decode cL_law 638 = .ok (.iadd, 1) := by decide +kernel
theorem dL_law_639 : decode cL_law 639 = .ok (.iaload, 1) := by decide +kernel
theorem dL_law_640 : decode cL_law 640 = .ok (.invokevirtual 84, 3) := by decide +kernel
theorem dL_law_643 : decode cL_law 643 = .ok (.aload_n 2, 1) := by decide +kernel
theorem dL_law_644 : decode cL_law 644 = .ok (.aload_n 0, 1) := by decide +kernel
theorem dL_law_645 : decode cL_law 645 = .ok (.iload_n 3, 1) := by decide +kernel
theorem dL_law_646 : decode cL_law 646 = .ok (.iconst 1, 1) := by decide +kernel
theorem dL_law_647 : decode cL_law 647 = .ok (.iadd, 1) := by decide +kernel
theorem dL_law_648 : decode cL_law 648 = .ok (.iaload, 1) := by decide +kernel
theorem dL_law_649 : decode cL_law 649 = .ok (.invokevirtual 87, 3) := by decide +kernel
theorem dL_law_652 : decode cL_law 652 = .ok (.if_icmp .eq 585, 3) := by decide +kernel
theorem dL_law_655 : decode cL_law 655 = .ok (.iconst 0, 1) := by decide +kernel
theorem dL_law_656 : decode cL_law 656 = .ok (.ireturn, 1) := by decide +kernel
theorem dL_law_657 : decode cL_law 657 = .ok (.aload_n 1, 1) := by decide +kernel
theorem dL_law_658 : decode cL_law 658 = .ok (.aload_n 0, 1) := by decide +kernel
theorem dL_law_659 : decode cL_law 659 = .ok (.iload_n 3, 1) := by decide +kernel
theorem dL_law_660 : decode cL_law 660 = .ok (.iconst 1, 1) := by decide +kernel
theorem dL_law_661 : decode cL_law 661 = .ok (.iadd, 1) := by decide +kernel
theorem dL_law_662 : decode cL_law 662 = .ok (.iaload, 1) := by decide +kernel
theorem dL_law_663 : decode cL_law 663 = .ok (.invokevirtual 88, 3) := by decide +kernel
theorem dL_law_666 : decode cL_law 666 = .ok (.aload_n 2, 1) := by decide +kernel
theorem dL_law_667 : decode cL_law 667 = .ok (.aload_n 0, 1) := by decide +kernel
theorem dL_law_668 : decode cL_law 668 = .ok (.iload_n 3, 1) := by decide +kernel
theorem dL_law_669 : decode cL_law 669 = .ok (.iconst 1, 1) := by decide +kernel
theorem dL_law_670 : decode cL_law 670 = .ok (.iadd, 1) := by decide +kernel
theorem dL_law_671 : decode cL_law 671 = .ok (.iaload, 1) := by decide +kernel
theorem dL_law_672 : decode cL_law 672 = .ok (.invokevirtual 91, 3) := by decide +kernel
theorem dL_law_675 : decode cL_law 675 = .ok (.if_icmp .eq 562, 3) := by decide +kernel
theorem dL_law_678 : decode cL_law 678 = .ok (.iconst 0, 1) := by decide +kernel
theorem dL_law_679 : decode cL_law 679 = .ok (.ireturn, 1) := by decide +kernel
theorem dL_law_680 : decode cL_law 680 = .ok (.aload_n 1, 1) := by decide +kernel
theorem dL_law_681 : decode cL_law 681 = .ok (.aload_n 0, 1) := by decide +kernel
theorem dL_law_682 : decode cL_law 682 = .ok (.iload_n 3, 1) := by decide +kernel
theorem dL_law_683 : decode cL_law 683 = .ok (.iconst 1, 1) := by decide +kernel
theorem dL_law_684 : decode cL_law 684 = .ok (.iadd, 1) := by decide +kernel
theorem dL_law_685 : decode cL_law 685 = .ok (.iaload, 1) := by decide +kernel
theorem dL_law_686 : decode cL_law 686 = .ok (.invokevirtual 92, 3) := by decide +kernel
theorem dL_law_689 : decode cL_law 689 = .ok (.aload_n 2, 1) := by decide +kernel
theorem dL_law_690 : decode cL_law 690 = .ok (.aload_n 0, 1) := by decide +kernel
theorem dL_law_691 : decode cL_law 691 = .ok (.iload_n 3, 1) := by decide +kernel
theorem dL_law_692 : decode cL_law 692 = .ok (.iconst 1, 1) := by decide +kernel
theorem dL_law_693 : decode cL_law 693 = .ok (.iadd, 1) := by decide +kernel
theorem dL_law_694 : decode cL_law 694 = .ok (.iaload, 1) := by decide +kernel
theorem dL_law_695 : decode cL_law 695 = .ok (.invokevirtual 95, 3) := by decide +kernel
theorem dL_law_698 : decode cL_law 698 = .ok (.if_icmp .eq 539, 3) := by decide +kernel
theorem dL_law_701 : decode cL_law 701 = .ok (.iconst 0, 1) := by decide +kernel
theorem dL_law_702 : decode cL_law 702 = .ok (.ireturn, 1) := by decide +kernel
theorem dL_law_703 : decode cL_law 703 = .ok (.aload_n 1, 1) := by decide +kernel
theorem dL_law_704 : decode cL_law 704 = .ok (.invokevirtual 96, 3) := by decide +kernel
theorem dL_law_707 : decode cL_law 707 = .ok (.aload_n 2, 1) := by decide +kernel
theorem dL_law_708 : decode cL_law 708 = .ok (.invokevirtual 99, 3) := by decide +kernel
theorem dL_law_711 : decode cL_law 711 = .ok (.if_icmp .eq 526, 3) := by decide +kernel
theorem dL_law_714 : decode cL_law 714 = .ok (.iconst 0, 1) := by decide +kernel
theorem dL_law_715 : decode cL_law 715 = .ok (.ireturn, 1) := by decide +kernel
theorem dL_law_716 : decode cL_law 716 = .ok (.aload_n 1, 1) := by decide +kernel
theorem dL_law_717 : decode cL_law 717 = .ok (.aload_n 0, 1) := by decide +kernel
theorem dL_law_718 : decode cL_law 718 = .ok (.iload_n 3, 1) := by decide +kernel
theorem dL_law_719 : decode cL_law 719 = .ok (.iconst 1, 1) := by decide +kernel
theorem dL_law_720 : decode cL_law 720 = .ok (.iadd, 1) := by decide +kernel
theorem dL_law_721 : decode cL_law 721 = .ok (.iaload, 1) := by decide +kernel
theorem dL_law_722 : decode cL_law 722 = .ok (.invokevirtual 100, 3) := by decide +kernel
theorem dL_law_725 : decode cL_law 725 = .ok (.aload_n 2, 1) := by decide +kernel
theorem dL_law_726 : decode cL_law 726 = .ok (.aload_n 0, 1) := by decide +kernel
theorem dL_law_727 : decode cL_law 727 = .ok (.iload_n 3, 1) := by decide +kernel
theorem dL_law_728 : decode cL_law 728 = .ok (.iconst 1, 1) := by decide +kernel
theorem dL_law_729 : decode cL_law 729 = .ok (.iadd, 1) := by decide +kernel
theorem dL_law_730 : decode cL_law 730 = .ok (.iaload, 1) := by decide +kernel
theorem dL_law_731 : decode cL_law 731 = .ok (.invokevirtual 103, 3) := by decide +kernel
theorem dL_law_734 : decode cL_law 734 = .ok (.if_icmp .eq 503, 3) := by decide +kernel
theorem dL_law_737 : decode cL_law 737 = .ok (.iconst 0, 1) := by decide +kernel
theorem dL_law_738 : decode cL_law 738 = .ok (.ireturn, 1) := by decide +kernel
theorem dL_law_739 : decode cL_law 739 = .ok (.aload_n 1, 1) := by decide +kernel
theorem dL_law_740 : decode cL_law 740 = .ok (.aload_n 0, 1) := by decide +kernel
theorem dL_law_741 : decode cL_law 741 = .ok (.iload_n 3, 1) := by decide +kernel
theorem dL_law_742 : decode cL_law 742 = .ok (.iconst 1, 1) := by decide +kernel
theorem dL_law_743 : decode cL_law 743 = .ok (.iadd, 1) := by decide +kernel
theorem dL_law_744 : decode cL_law 744 = .ok (.iaload, 1) := by decide +kernel
theorem dL_law_745 : decode cL_law 745 = .ok (.invokevirtual 104, 3) := by decide +kernel
theorem dL_law_748 : decode cL_law 748 = .ok (.aload_n 2, 1) := by decide +kernel
theorem dL_law_749 : decode cL_law 749 = .ok (.aload_n 0, 1) := by decide +kernel
theorem dL_law_750 : decode cL_law 750 = .ok (.iload_n 3, 1) := by decide +kernel
theorem dL_law_751 : decode cL_law 751 = .ok (.iconst 1, 1) := by decide +kernel
theorem dL_law_752 : decode cL_law 752 = .ok (.iadd, 1) := by decide +kernel
theorem dL_law_753 : decode cL_law 753 = .ok (.iaload, 1) := by decide +kernel
theorem dL_law_754 : decode cL_law 754 = .ok (.invokevirtual 107, 3) := by decide +kernel
theorem dL_law_757 : decode cL_law 757 = .ok (.if_icmp .eq 480, 3) := by decide +kernel
theorem dL_law_760 : decode cL_law 760 = .ok (.iconst 0, 1) := by decide +kernel
theorem dL_law_761 : decode cL_law 761 = .ok (.ireturn, 1) := by decide +kernel
theorem dL_law_762 : decode cL_law 762 = .ok (.aload_n 1, 1) := by decide +kernel
theorem dL_law_763 : decode cL_law 763 = .ok (.aload_n 0, 1) := by decide +kernel
theorem dL_law_764 : decode cL_law 764 = .ok (.iload_n 3, 1) := by decide +kernel
theorem dL_law_765 : decode cL_law 765 = .ok (.iconst 1, 1) := by decide +kernel
theorem dL_law_766 : decode cL_law 766 = .ok (.iadd, 1) := by decide +kernel
theorem dL_law_767 : decode cL_law 767 = .ok (.iaload, 1) := by decide +kernel
theorem dL_law_768 : decode cL_law 768 = .ok (.aload_n 0, 1) := by decide +kernel
theorem dL_law_769 : decode cL_law 769 = .ok (.iload_n 3, 1) := by decide +kernel
theorem dL_law_770 : decode cL_law 770 = .ok (.iconst 2, 1) := by decide +kernel
theorem dL_law_771 : decode cL_law 771 = .ok (.iadd, 1) := by decide +kernel
theorem dL_law_772 : decode cL_law 772 = .ok (.iaload, 1) := by decide +kernel
theorem dL_law_773 : decode cL_law 773 = .ok (.aload_n 0, 1) := by decide +kernel
theorem dL_law_774 : decode cL_law 774 = .ok (.iload_n 3, 1) := by decide +kernel
theorem dL_law_775 : decode cL_law 775 = .ok (.iconst 3, 1) := by decide +kernel
theorem dL_law_776 : decode cL_law 776 = .ok (.iadd, 1) := by decide +kernel
theorem dL_law_777 : decode cL_law 777 = .ok (.iaload, 1) := by decide +kernel
theorem dL_law_778 : decode cL_law 778 = .ok (.invokevirtual 108, 3) := by decide +kernel
theorem dL_law_781 : decode cL_law 781 = .ok (.aload_n 2, 1) := by decide +kernel
theorem dL_law_782 : decode cL_law 782 = .ok (.aload_n 0, 1) := by decide +kernel
theorem dL_law_783 : decode cL_law 783 = .ok (.iload_n 3, 1) := by decide +kernel
theorem dL_law_784 : decode cL_law 784 = .ok (.iconst 1, 1) := by decide +kernel
theorem dL_law_785 : decode cL_law 785 = .ok (.iadd, 1) := by decide +kernel
theorem dL_law_786 : decode cL_law 786 = .ok (.iaload, 1) := by decide +kernel
theorem dL_law_787 : decode cL_law 787 = .ok (.aload_n 0, 1) := by decide +kernel
theorem dL_law_788 : decode cL_law 788 = .ok (.iload_n 3, 1) := by decide +kernel
theorem dL_law_789 : decode cL_law 789 = .ok (.iconst 2, 1) := by decide +kernel
theorem dL_law_790 : decode cL_law 790 = .ok (.iadd, 1) := by decide +kernel
theorem dL_law_791 : decode cL_law 791 = .ok (.iaload, 1) := by decide +kernel
theorem dL_law_792 : decode cL_law 792 = .ok (.aload_n 0, 1) := by decide +kernel
theorem dL_law_793 : decode cL_law 793 = .ok (.iload_n 3, 1) := by decide +kernel
theorem dL_law_794 : decode cL_law 794 = .ok (.iconst 3, 1) := by decide +kernel
theorem dL_law_795 : decode cL_law 795 = .ok (.iadd, 1) := by decide +kernel
theorem dL_law_796 : decode cL_law 796 = .ok (.iaload, 1) := by decide +kernel
theorem dL_law_797 : decode cL_law 797 = .ok (.invokevirtual 111, 3) := by decide +kernel
theorem dL_law_800 : decode cL_law 800 = .ok (.if_icmp .eq 437, 3) := by decide +kernel
theorem dL_law_803 : decode cL_law 803 = .ok (.iconst 0, 1) := by decide +kernel
theorem dL_law_804 : decode cL_law 804 = .ok (.ireturn, 1) := by decide +kernel
theorem dL_law_805 : decode cL_law 805 = .ok (.aload_n 1, 1) := by decide +kernel
theorem dL_law_806 : decode cL_law 806 = .ok (.aload_n 0, 1) := by decide +kernel
theorem dL_law_807 : decode cL_law 807 = .ok (.iload_n 3, 1) := by decide +kernel
theorem dL_law_808 : decode cL_law 808 = .ok (.iconst 1, 1) := by decide +kernel
theorem dL_law_809 : decode cL_law 809 = .ok (.iadd, 1) := by decide +kernel
theorem dL_law_810 : decode cL_law 810 = .ok (.iaload, 1) := by decide +kernel
theorem dL_law_811 : decode cL_law 811 = .ok (.aload_n 0, 1) := by decide +kernel
theorem dL_law_812 : decode cL_law 812 = .ok (.iload_n 3, 1) := by decide +kernel
theorem dL_law_813 : decode cL_law 813 = .ok (.iconst 2, 1) := by decide +kernel
theorem dL_law_814 : decode cL_law 814 = .ok (.iadd, 1) := by decide +kernel
theorem dL_law_815 : decode cL_law 815 = .ok (.iaload, 1) := by decide +kernel
theorem dL_law_816 : decode cL_law 816 = .ok (.aload_n 0, 1) := by decide +kernel
theorem dL_law_817 : decode cL_law 817 = .ok (.iload_n 3, 1) := by decide +kernel
theorem dL_law_818 : decode cL_law 818 = .ok (.iconst 3, 1) := by decide +kernel
theorem dL_law_819 : decode cL_law 819 = .ok (.iadd, 1) := by decide +kernel
theorem dL_law_820 : decode cL_law 820 = .ok (.iaload, 1) := by decide +kernel
theorem dL_law_821 : decode cL_law 821 = .ok (.invokevirtual 112, 3) := by decide +kernel
theorem dL_law_824 : decode cL_law 824 = .ok (.aload_n 2, 1) := by decide +kernel
theorem dL_law_825 : decode cL_law 825 = .ok (.aload_n 0, 1) := by decide +kernel
theorem dL_law_826 : decode cL_law 826 = .ok (.iload_n 3, 1) := by decide +kernel
theorem dL_law_827 : decode cL_law 827 = .ok (.iconst 1, 1) := by decide +kernel
theorem dL_law_828 : decode cL_law 828 = .ok (.iadd, 1) := by decide +kernel
theorem dL_law_829 : decode cL_law 829 = .ok (.iaload, 1) := by decide +kernel
theorem dL_law_830 : decode cL_law 830 = .ok (.aload_n 0, 1) := by decide +kernel
theorem dL_law_831 : decode cL_law 831 = .ok (.iload_n 3, 1) := by decide +kernel
theorem dL_law_832 : decode cL_law 832 = .ok (.iconst 2, 1) := by decide +kernel
theorem dL_law_833 : decode cL_law 833 = .ok (.iadd, 1) := by decide +kernel
theorem dL_law_834 : decode cL_law 834 = .ok (.iaload, 1) := by decide +kernel
theorem dL_law_835 : decode cL_law 835 = .ok (.aload_n 0, 1) := by decide +kernel
theorem dL_law_836 : decode cL_law 836 = .ok (.iload_n 3, 1) := by decide +kernel
theorem dL_law_837 : decode cL_law 837 = .ok (.iconst 3, 1) := by decide +kernel
theorem dL_law_838 : decode cL_law 838 = .ok (.iadd, 1) := by decide +kernel
theorem dL_law_839 : decode cL_law 839 = .ok (.iaload, 1) := by decide +kernel
theorem dL_law_840 : decode cL_law 840 = .ok (.invokevirtual 115, 3) := by decide +kernel
theorem dL_law_843 : decode cL_law 843 = .ok (.if_icmp .eq 394, 3) := by decide +kernel
theorem dL_law_846 : decode cL_law 846 = .ok (.iconst 0, 1) := by decide +kernel
theorem dL_law_847 : decode cL_law 847 = .ok (.ireturn, 1) := by decide +kernel
theorem dL_law_848 : decode cL_law 848 = .ok (.aload_n 1, 1) := by decide +kernel
theorem dL_law_849 : decode cL_law 849 = .ok (.aload_n 0, 1) := by decide +kernel
theorem dL_law_850 : decode cL_law 850 = .ok (.iload_n 3, 1) := by decide +kernel
theorem dL_law_851 : decode cL_law 851 = .ok (.iconst 1, 1) := by decide +kernel
theorem dL_law_852 : decode cL_law 852 = .ok (.iadd, 1) := by decide +kernel
theorem dL_law_853 : decode cL_law 853 = .ok (.iaload, 1) := by decide +kernel
theorem dL_law_854 : decode cL_law 854 = .ok (.invokevirtual 116, 3) := by decide +kernel
theorem dL_law_857 : decode cL_law 857 = .ok (.aload_n 2, 1) := by decide +kernel
theorem dL_law_858 : decode cL_law 858 = .ok (.aload_n 0, 1) := by decide +kernel
theorem dL_law_859 : decode cL_law 859 = .ok (.iload_n 3, 1) := by decide +kernel
theorem dL_law_860 : decode cL_law 860 = .ok (.iconst 1, 1) := by decide +kernel
theorem dL_law_861 : decode cL_law 861 = .ok (.iadd, 1) := by decide +kernel
theorem dL_law_862 : decode cL_law 862 = .ok (.iaload, 1) := by decide +kernel
theorem dL_law_863 : decode cL_law 863 = .ok (.invokevirtual 119, 3) := by decide +kernel
theorem dL_law_866 : decode cL_law 866 = .ok (.if_icmp .eq 371, 3) := by decide +kernel
theorem dL_law_869 : decode cL_law 869 = .ok (.iconst 0, 1) := by decide +kernel
theorem dL_law_870 : decode cL_law 870 = .ok (.ireturn, 1) := by decide +kernel
theorem dL_law_871 : decode cL_law 871 = .ok (.aload_n 1, 1) := by decide +kernel
theorem dL_law_872 : decode cL_law 872 = .ok (.aload_n 0, 1) := by decide +kernel
theorem dL_law_873 : decode cL_law 873 = .ok (.iload_n 3, 1) := by decide +kernel
theorem dL_law_874 : decode cL_law 874 = .ok (.iconst 1, 1) := by decide +kernel
theorem dL_law_875 : decode cL_law 875 = .ok (.iadd, 1) := by decide +kernel
theorem dL_law_876 : decode cL_law 876 = .ok (.iaload, 1) := by decide +kernel
theorem dL_law_877 : decode cL_law 877 = .ok (.invokevirtual 120, 3) := by decide +kernel
theorem dL_law_880 : decode cL_law 880 = .ok (.aload_n 2, 1) := by decide +kernel
theorem dL_law_881 : decode cL_law 881 = .ok (.aload_n 0, 1) := by decide +kernel
theorem dL_law_882 : decode cL_law 882 = .ok (.iload_n 3, 1) := by decide +kernel
theorem dL_law_883 : decode cL_law 883 = .ok (.iconst 1, 1) := by decide +kernel
theorem dL_law_884 : decode cL_law 884 = .ok (.iadd, 1) := by decide +kernel
theorem dL_law_885 : decode cL_law 885 = .ok (.iaload, 1) := by decide +kernel
theorem dL_law_886 : decode cL_law 886 = .ok (.invokevirtual 123, 3) := by decide +kernel
theorem dL_law_889 : decode cL_law 889 = .ok (.if_icmp .eq 348, 3) := by decide +kernel
theorem dL_law_892 : decode cL_law 892 = .ok (.iconst 0, 1) := by decide +kernel
theorem dL_law_893 : decode cL_law 893 = .ok (.ireturn, 1) := by decide +kernel
theorem dL_law_894 : decode cL_law 894 = .ok (.aload_n 1, 1) := by decide +kernel
theorem dL_law_895 : decode cL_law 895 = .ok (.aload_n 0, 1) := by decide +kernel
theorem dL_law_896 : decode cL_law 896 = .ok (.iload_n 3, 1) := by decide +kernel
theorem dL_law_897 : decode cL_law 897 = .ok (.iconst 1, 1) := by decide +kernel
theorem dL_law_898 : decode cL_law 898 = .ok (.iadd, 1) := by decide +kernel
theorem dL_law_899 : decode cL_law 899 = .ok (.iaload, 1) := by decide +kernel
theorem dL_law_900 : decode cL_law 900 = .ok (.aload_n 0, 1) := by decide +kernel
theorem dL_law_901 : decode cL_law 901 = .ok (.iload_n 3, 1) := by decide +kernel
theorem dL_law_902 : decode cL_law 902 = .ok (.iconst 2, 1) := by decide +kernel
theorem dL_law_903 : decode cL_law 903 = .ok (.iadd, 1) := by decide +kernel
theorem dL_law_904 : decode cL_law 904 = .ok (.iaload, 1) := by decide +kernel
theorem dL_law_905 : decode cL_law 905 = .ok (.aload_n 0, 1) := by decide +kernel
theorem dL_law_906 : decode cL_law 906 = .ok (.iload_n 3, 1) := by decide +kernel
theorem dL_law_907 : decode cL_law 907 = .ok (.iconst 3, 1) := by decide +kernel
theorem dL_law_908 : decode cL_law 908 = .ok (.iadd, 1) := by decide +kernel
theorem dL_law_909 : decode cL_law 909 = .ok (.iaload, 1) := by decide +kernel
theorem dL_law_910 : decode cL_law 910 = .ok (.invokevirtual 124, 3) := by decide +kernel
theorem dL_law_913 : decode cL_law 913 = .ok (.aload_n 2, 1) := by decide +kernel
theorem dL_law_914 : decode cL_law 914 = .ok (.aload_n 0, 1) := by decide +kernel
theorem dL_law_915 : decode cL_law 915 = .ok (.iload_n 3, 1) := by decide +kernel
theorem dL_law_916 : decode cL_law 916 = .ok (.iconst 1, 1) := by decide +kernel
theorem dL_law_917 : decode cL_law 917 = .ok (.iadd, 1) := by decide +kernel
theorem dL_law_918 : decode cL_law 918 = .ok (.iaload, 1) := by decide +kernel
theorem dL_law_919 : decode cL_law 919 = .ok (.aload_n 0, 1) := by decide +kernel
theorem dL_law_920 : decode cL_law 920 = .ok (.iload_n 3, 1) := by decide +kernel
theorem dL_law_921 : decode cL_law 921 = .ok (.iconst 2, 1) := by decide +kernel
theorem dL_law_922 : decode cL_law 922 = .ok (.iadd, 1) := by decide +kernel
theorem dL_law_923 : decode cL_law 923 = .ok (.iaload, 1) := by decide +kernel
theorem dL_law_924 : decode cL_law 924 = .ok (.aload_n 0, 1) := by decide +kernel
theorem dL_law_925 : decode cL_law 925 = .ok (.iload_n 3, 1) := by decide +kernel
theorem dL_law_926 : decode cL_law 926 = .ok (.iconst 3, 1) := by decide +kernel
theorem dL_law_927 : decode cL_law 927 = .ok (.iadd, 1) := by decide +kernel
theorem dL_law_928 : decode cL_law 928 = .ok (.iaload, 1) := by decide +kernel
theorem dL_law_929 : decode cL_law 929 = .ok (.invokevirtual 127, 3) := by decide +kernel
theorem dL_law_932 : decode cL_law 932 = .ok (.if_icmp .eq 305, 3) := by decide +kernel
theorem dL_law_935 : decode cL_law 935 = .ok (.iconst 0, 1) := by decide +kernel
theorem dL_law_936 : decode cL_law 936 = .ok (.ireturn, 1) := by decide +kernel
theorem dL_law_937 : decode cL_law 937 = .ok (.aload_n 1, 1) := by decide +kernel
theorem dL_law_938 : decode cL_law 938 = .ok (.aload_n 0, 1) := by decide +kernel
theorem dL_law_939 : decode cL_law 939 = .ok (.iload_n 3, 1) := by decide +kernel
theorem dL_law_940 : decode cL_law 940 = .ok (.iconst 1, 1) := by decide +kernel
theorem dL_law_941 : decode cL_law 941 = .ok (.iadd, 1) := by decide +kernel
theorem dL_law_942 : decode cL_law 942 = .ok (.iaload, 1) := by decide +kernel
theorem dL_law_943 : decode cL_law 943 = .ok (.aload_n 0, 1) := by decide +kernel
theorem dL_law_944 : decode cL_law 944 = .ok (.iload_n 3, 1) := by decide +kernel
theorem dL_law_945 : decode cL_law 945 = .ok (.iconst 2, 1) := by decide +kernel
theorem dL_law_946 : decode cL_law 946 = .ok (.iadd, 1) := by decide +kernel
theorem dL_law_947 : decode cL_law 947 = .ok (.iaload, 1) := by decide +kernel
theorem dL_law_948 : decode cL_law 948 = .ok (.aload_n 0, 1) := by decide +kernel
theorem dL_law_949 : decode cL_law 949 = .ok (.iload_n 3, 1) := by decide +kernel
theorem dL_law_950 : decode cL_law 950 = .ok (.iconst 3, 1) := by decide +kernel
theorem dL_law_951 : decode cL_law 951 = .ok (.iadd, 1) := by decide +kernel
theorem dL_law_952 : decode cL_law 952 = .ok (.iaload, 1) := by decide +kernel
theorem dL_law_953 : decode cL_law 953 = .ok (.invokevirtual 128, 3) := by decide +kernel
theorem dL_law_956 : decode cL_law 956 = .ok (.aload_n 2, 1) := by decide +kernel
theorem dL_law_957 : decode cL_law 957 = .ok (.aload_n 0, 1) := by decide +kernel
theorem dL_law_958 : decode cL_law 958 = .ok (.iload_n 3, 1) := by decide +kernel
theorem dL_law_959 : decode cL_law 959 = .ok (.iconst 1, 1) := by decide +kernel
theorem dL_law_960 : decode cL_law 960 = .ok (.iadd, 1) := by decide +kernel
theorem dL_law_961 : decode cL_law 961 = .ok (.iaload, 1) := by decide +kernel
theorem dL_law_962 : decode cL_law 962 = .ok (.aload_n 0, 1) := by decide +kernel
theorem dL_law_963 : decode cL_law 963 = .ok (.iload_n 3, 1) := by decide +kernel
theorem dL_law_964 : decode cL_law 964 = .ok (.iconst 2, 1) := by decide +kernel
theorem dL_law_965 : decode cL_law 965 = .ok (.iadd, 1) := by decide +kernel
theorem dL_law_966 : decode cL_law 966 = .ok (.iaload, 1) := by decide +kernel
theorem dL_law_967 : decode cL_law 967 = .ok (.aload_n 0, 1) := by decide +kernel
theorem dL_law_968 : decode cL_law 968 = .ok (.iload_n 3, 1) := by decide +kernel
theorem dL_law_969 : decode cL_law 969 = .ok (.iconst 3, 1) := by decide +kernel
theorem dL_law_970 : decode cL_law 970 = .ok (.iadd, 1) := by decide +kernel
theorem dL_law_971 : decode cL_law 971 = .ok (.iaload, 1) := by decide +kernel
theorem dL_law_972 : decode cL_law 972 = .ok (.invokevirtual 131, 3) := by decide +kernel
theorem dL_law_975 : decode cL_law 975 = .ok (.if_icmp .eq 262, 3) := by decide +kernel
theorem dL_law_978 : decode cL_law 978 = .ok (.iconst 0, 1) := by decide +kernel
theorem dL_law_979 : decode cL_law 979 = .ok (.ireturn, 1) := by decide +kernel
theorem dL_law_980 : decode cL_law 980 = .ok (.aload_n 1, 1) := by decide +kernel
theorem dL_law_981 : decode cL_law 981 = .ok (.aload_n 0, 1) := by decide +kernel
theorem dL_law_982 : decode cL_law 982 = .ok (.iload_n 3, 1) := by decide +kernel
theorem dL_law_983 : decode cL_law 983 = .ok (.iconst 1, 1) := by decide +kernel
theorem dL_law_984 : decode cL_law 984 = .ok (.iadd, 1) := by decide +kernel
theorem dL_law_985 : decode cL_law 985 = .ok (.iaload, 1) := by decide +kernel
theorem dL_law_986 : decode cL_law 986 = .ok (.aload_n 0, 1) := by decide +kernel
theorem dL_law_987 : decode cL_law 987 = .ok (.iload_n 3, 1) := by decide +kernel
theorem dL_law_988 : decode cL_law 988 = .ok (.iconst 2, 1) := by decide +kernel
theorem dL_law_989 : decode cL_law 989 = .ok (.iadd, 1) := by decide +kernel
theorem dL_law_990 : decode cL_law 990 = .ok (.iaload, 1) := by decide +kernel
theorem dL_law_991 : decode cL_law 991 = .ok (.invokevirtual 132, 3) := by decide +kernel
theorem dL_law_994 : decode cL_law 994 = .ok (.aload_n 2, 1) := by decide +kernel
theorem dL_law_995 : decode cL_law 995 = .ok (.aload_n 0, 1) := by decide +kernel
theorem dL_law_996 : decode cL_law 996 = .ok (.iload_n 3, 1) := by decide +kernel
theorem dL_law_997 : decode cL_law 997 = .ok (.iconst 1, 1) := by decide +kernel
theorem dL_law_998 : decode cL_law 998 = .ok (.iadd, 1) := by decide +kernel
theorem dL_law_999 : decode cL_law 999 = .ok (.iaload, 1) := by decide +kernel
theorem dL_law_1000 : decode cL_law 1000 = .ok (.aload_n 0, 1) := by decide +kernel
theorem dL_law_1001 : decode cL_law 1001 = .ok (.iload_n 3, 1) := by decide +kernel
theorem dL_law_1002 : decode cL_law 1002 = .ok (.iconst 2, 1) := by decide +kernel
theorem dL_law_1003 : decode cL_law 1003 = .ok (.iadd, 1) := by decide +kernel
theorem dL_law_1004 : decode cL_law 1004 = .ok (.iaload, 1) := by decide +kernel
theorem dL_law_1005 : decode cL_law 1005 = .ok (.invokevirtual 135, 3) := by decide +kernel
theorem dL_law_1008 : decode cL_law 1008 = .ok (.if_icmp .eq 229, 3) := by decide +kernel
theorem dL_law_1011 : decode cL_law 1011 = .ok (.iconst 0, 1) := by decide +kernel
theorem dL_law_1012 : decode cL_law 1012 = .ok (.ireturn, 1) := by decide +kernel
theorem dL_law_1013 : decode cL_law 1013 = .ok (.aload_n 1, 1) := by decide +kernel
theorem dL_law_1014 : decode cL_law 1014 = .ok (.aload_n 0, 1) := by decide +kernel
theorem dL_law_1015 : decode cL_law 1015 = .ok (.iload_n 3, 1) := by decide +kernel
theorem dL_law_1016 : decode cL_law 1016 = .ok (.iconst 1, 1) := by decide +kernel
theorem dL_law_1017 : decode cL_law 1017 = .ok (.iadd, 1) := by decide +kernel
theorem dL_law_1018 : decode cL_law 1018 = .ok (.iaload, 1) := by decide +kernel
theorem dL_law_1019 : decode cL_law 1019 = .ok (.aload_n 0, 1) := by decide +kernel
theorem dL_law_1020 : decode cL_law 1020 = .ok (.iload_n 3, 1) := by decide +kernel
theorem dL_law_1021 : decode cL_law 1021 = .ok (.iconst 2, 1) := by decide +kernel
theorem dL_law_1022 : decode cL_law 1022 = .ok (.iadd, 1) := by decide +kernel
theorem dL_law_1023 : decode cL_law 1023 = .ok (.iaload, 1) := by decide +kernel
theorem dL_law_1024 : decode cL_law 1024 = .ok (.aload_n 0, 1) := by decide +kernel
theorem dL_law_1025 : decode cL_law 1025 = .ok (.iload_n 3, 1) := by decide +kernel
theorem dL_law_1026 : decode cL_law 1026 = .ok (.iconst 3, 1) := by decide +kernel
theorem dL_law_1027 : decode cL_law 1027 = .ok (.iadd, 1) := by decide +kernel
theorem dL_law_1028 : decode cL_law 1028 = .ok (.iaload, 1) := by decide +kernel
theorem dL_law_1029 : decode cL_law 1029 = .ok (.aload_n 0, 1) := by decide +kernel
theorem dL_law_1030 : decode cL_law 1030 = .ok (.iload_n 3, 1) := by decide +kernel
theorem dL_law_1031 : decode cL_law 1031 = .ok (.iconst 4, 1) := by decide +kernel
theorem dL_law_1032 : decode cL_law 1032 = .ok (.iadd, 1) := by decide +kernel
theorem dL_law_1033 : decode cL_law 1033 = .ok (.iaload, 1) := by decide +kernel
theorem dL_law_1034 : decode cL_law 1034 = .ok (.aload_n 0, 1) := by decide +kernel
theorem dL_law_1035 : decode cL_law 1035 = .ok (.iload_n 3, 1) := by decide +kernel
theorem dL_law_1036 : decode cL_law 1036 = .ok (.iconst 5, 1) := by decide +kernel
theorem dL_law_1037 : decode cL_law 1037 = .ok (.iadd, 1) := by decide +kernel
theorem dL_law_1038 : decode cL_law 1038 = .ok (.iaload, 1) := by decide +kernel
theorem dL_law_1039 : decode cL_law 1039 = .ok (.invokevirtual 136, 3) := by decide +kernel
theorem dL_law_1042 : decode cL_law 1042 = .ok (.aload_n 2, 1) := by decide +kernel
theorem dL_law_1043 : decode cL_law 1043 = .ok (.aload_n 0, 1) := by decide +kernel
theorem dL_law_1044 : decode cL_law 1044 = .ok (.iload_n 3, 1) := by decide +kernel
theorem dL_law_1045 : decode cL_law 1045 = .ok (.iconst 1, 1) := by decide +kernel
theorem dL_law_1046 : decode cL_law 1046 = .ok (.iadd, 1) := by decide +kernel
theorem dL_law_1047 : decode cL_law 1047 = .ok (.iaload, 1) := by decide +kernel
theorem dL_law_1048 : decode cL_law 1048 = .ok (.aload_n 0, 1) := by decide +kernel
theorem dL_law_1049 : decode cL_law 1049 = .ok (.iload_n 3, 1) := by decide +kernel
theorem dL_law_1050 : decode cL_law 1050 = .ok (.iconst 2, 1) := by decide +kernel
theorem dL_law_1051 : decode cL_law 1051 = .ok (.iadd, 1) := by decide +kernel
theorem dL_law_1052 : decode cL_law 1052 = .ok (.iaload, 1) := by decide +kernel
theorem dL_law_1053 : decode cL_law 1053 = .ok (.aload_n 0, 1) := by decide +kernel
theorem dL_law_1054 : decode cL_law 1054 = .ok (.iload_n 3, 1) := by decide +kernel
theorem dL_law_1055 : decode cL_law 1055 = .ok (.iconst 3, 1) := by decide +kernel
theorem dL_law_1056 : decode cL_law 1056 = .ok (.iadd, 1) := by decide +kernel
theorem dL_law_1057 : decode cL_law 1057 = .ok (.iaload, 1) := by decide +kernel
theorem dL_law_1058 : decode cL_law 1058 = .ok (.aload_n 0, 1) := by decide +kernel
theorem dL_law_1059 : decode cL_law 1059 = .ok (.iload_n 3, 1) := by decide +kernel
theorem dL_law_1060 : decode cL_law 1060 = .ok (.iconst 4, 1) := by decide +kernel
theorem dL_law_1061 : decode cL_law 1061 = .ok (.iadd, 1) := by decide +kernel
theorem dL_law_1062 : decode cL_law 1062 = .ok (.iaload, 1) := by decide +kernel
theorem dL_law_1063 : decode cL_law 1063 = .ok (.aload_n 0, 1) := by decide +kernel
theorem dL_law_1064 : decode cL_law 1064 = .ok (.iload_n 3, 1) := by decide +kernel
theorem dL_law_1065 : decode cL_law 1065 = .ok (.iconst 5, 1) := by decide +kernel
theorem dL_law_1066 : decode cL_law 1066 = .ok (.iadd, 1) := by decide +kernel
theorem dL_law_1067 : decode cL_law 1067 = .ok (.iaload, 1) := by decide +kernel
theorem dL_law_1068 : decode cL_law 1068 = .ok (.invokevirtual 140, 3) := by decide +kernel
theorem dL_law_1071 : decode cL_law 1071 = .ok (.if_icmp .eq 166, 3) := by decide +kernel
theorem dL_law_1074 : decode cL_law 1074 = .ok (.iconst 0, 1) := by decide +kernel
theorem dL_law_1075 : decode cL_law 1075 = .ok (.ireturn, 1) := by decide +kernel
theorem dL_law_1076 : decode cL_law 1076 = .ok (.aload_n 1, 1) := by decide +kernel
theorem dL_law_1077 : decode cL_law 1077 = .ok (.aload_n 0, 1) := by decide +kernel
theorem dL_law_1078 : decode cL_law 1078 = .ok (.iload_n 3, 1) := by decide +kernel
theorem dL_law_1079 : decode cL_law 1079 = .ok (.iconst 1, 1) := by decide +kernel
theorem dL_law_1080 : decode cL_law 1080 = .ok (.iadd, 1) := by decide +kernel
theorem dL_law_1081 : decode cL_law 1081 = .ok (.iaload, 1) := by decide +kernel
theorem dL_law_1082 : decode cL_law 1082 = .ok (.aload_n 0, 1) := by decide +kernel
theorem dL_law_1083 : decode cL_law 1083 = .ok (.iload_n 3, 1) := by decide +kernel
theorem dL_law_1084 : decode cL_law 1084 = .ok (.iconst 2, 1) := by decide +kernel
theorem dL_law_1085 : decode cL_law 1085 = .ok (.iadd, 1) := by decide +kernel
theorem dL_law_1086 : decode cL_law 1086 = .ok (.iaload, 1) := by decide +kernel
theorem dL_law_1087 : decode cL_law 1087 = .ok (.invokevirtual 141, 3) := by decide +kernel
theorem dL_law_1090 : decode cL_law 1090 = .ok (.aload_n 2, 1) := by decide +kernel
theorem dL_law_1091 : decode cL_law 1091 = .ok (.aload_n 0, 1) := by decide +kernel
theorem dL_law_1092 : decode cL_law 1092 = .ok (.iload_n 3, 1) := by decide +kernel
theorem dL_law_1093 : decode cL_law 1093 = .ok (.iconst 1, 1) := by decide +kernel
theorem dL_law_1094 : decode cL_law 1094 = .ok (.iadd, 1) := by decide +kernel
theorem dL_law_1095 : decode cL_law 1095 = .ok (.iaload, 1) := by decide +kernel
theorem dL_law_1096 : decode cL_law 1096 = .ok (.aload_n 0, 1) := by decide +kernel
theorem dL_law_1097 : decode cL_law 1097 = .ok (.iload_n 3, 1) := by decide +kernel
theorem dL_law_1098 : decode cL_law 1098 = .ok (.iconst 2, 1) := by decide +kernel
theorem dL_law_1099 : decode cL_law 1099 = .ok (.iadd, 1) := by decide +kernel
theorem dL_law_1100 : decode cL_law 1100 = .ok (.iaload, 1) := by decide +kernel
theorem dL_law_1101 : decode cL_law 1101 = .ok (.invokevirtual 144, 3) := by decide +kernel
theorem dL_law_1104 : decode cL_law 1104 = .ok (.if_icmp .eq 133, 3) := by decide +kernel
theorem dL_law_1107 : decode cL_law 1107 = .ok (.iconst 0, 1) := by decide +kernel
theorem dL_law_1108 : decode cL_law 1108 = .ok (.ireturn, 1) := by decide +kernel
theorem dL_law_1109 : decode cL_law 1109 = .ok (.aload_n 1, 1) := by decide +kernel
theorem dL_law_1110 : decode cL_law 1110 = .ok (.aload_n 0, 1) := by decide +kernel
theorem dL_law_1111 : decode cL_law 1111 = .ok (.iload_n 3, 1) := by decide +kernel
theorem dL_law_1112 : decode cL_law 1112 = .ok (.iconst 1, 1) := by decide +kernel
theorem dL_law_1113 : decode cL_law 1113 = .ok (.iadd, 1) := by decide +kernel
theorem dL_law_1114 : decode cL_law 1114 = .ok (.iaload, 1) := by decide +kernel
theorem dL_law_1115 : decode cL_law 1115 = .ok (.aload_n 0, 1) := by decide +kernel
theorem dL_law_1116 : decode cL_law 1116 = .ok (.iload_n 3, 1) := by decide +kernel
theorem dL_law_1117 : decode cL_law 1117 = .ok (.iconst 2, 1) := by decide +kernel
theorem dL_law_1118 : decode cL_law 1118 = .ok (.iadd, 1) := by decide +kernel
theorem dL_law_1119 : decode cL_law 1119 = .ok (.iaload, 1) := by decide +kernel
theorem dL_law_1120 : decode cL_law 1120 = .ok (.invokevirtual 145, 3) := by decide +kernel
theorem dL_law_1123 : decode cL_law 1123 = .ok (.aload_n 2, 1) := by decide +kernel
theorem dL_law_1124 : decode cL_law 1124 = .ok (.aload_n 0, 1) := by decide +kernel
theorem dL_law_1125 : decode cL_law 1125 = .ok (.iload_n 3, 1) := by decide +kernel
theorem dL_law_1126 : decode cL_law 1126 = .ok (.iconst 1, 1) := by decide +kernel
theorem dL_law_1127 : decode cL_law 1127 = .ok (.iadd, 1) := by decide +kernel
theorem dL_law_1128 : decode cL_law 1128 = .ok (.iaload, 1) := by decide +kernel
theorem dL_law_1129 : decode cL_law 1129 = .ok (.aload_n 0, 1) := by decide +kernel
theorem dL_law_1130 : decode cL_law 1130 = .ok (.iload_n 3, 1) := by decide +kernel
theorem dL_law_1131 : decode cL_law 1131 = .ok (.iconst 2, 1) := by decide +kernel
theorem dL_law_1132 : decode cL_law 1132 = .ok (.iadd, 1) := by decide +kernel
theorem dL_law_1133 : decode cL_law 1133 = .ok (.iaload, 1) := by decide +kernel
theorem dL_law_1134 : decode cL_law 1134 = .ok (.invokevirtual 148, 3) := by decide +kernel
theorem dL_law_1137 : decode cL_law 1137 = .ok (.if_icmp .eq 100, 3) := by decide +kernel
theorem dL_law_1140 : decode cL_law 1140 = .ok (.iconst 0, 1) := by decide +kernel
theorem dL_law_1141 : decode cL_law 1141 = .ok (.ireturn, 1) := by decide +kernel
theorem dL_law_1142 : decode cL_law 1142 = .ok (.aload_n 1, 1) := by decide +kernel
theorem dL_law_1143 : decode cL_law 1143 = .ok (.aload_n 0, 1) := by decide +kernel
theorem dL_law_1144 : decode cL_law 1144 = .ok (.iload_n 3, 1) := by decide +kernel
theorem dL_law_1145 : decode cL_law 1145 = .ok (.iconst 1, 1) := by decide +kernel
theorem dL_law_1146 : decode cL_law 1146 = .ok (.iadd, 1) := by decide +kernel
theorem dL_law_1147 : decode cL_law 1147 = .ok (.iaload, 1) := by decide +kernel
theorem dL_law_1148 : decode cL_law 1148 = .ok (.invokevirtual 149, 3) := by decide +kernel
theorem dL_law_1151 : decode cL_law 1151 = .ok (.aload_n 2, 1) := by decide +kernel
theorem dL_law_1152 : decode cL_law 1152 = .ok (.aload_n 0, 1) := by decide +kernel
theorem dL_law_1153 : decode cL_law 1153 = .ok (.iload_n 3, 1) := by decide +kernel
theorem dL_law_1154 : decode cL_law 1154 = .ok (.iconst 1, 1) := by decide +kernel
theorem dL_law_1155 : decode cL_law 1155 = .ok (.iadd, 1) := by decide +kernel
theorem dL_law_1156 : decode cL_law 1156 = .ok (.iaload, 1) := by decide +kernel
theorem dL_law_1157 : decode cL_law 1157 = .ok (.invokevirtual 152, 3) := by decide +kernel
theorem dL_law_1160 : decode cL_law 1160 = .ok (.if_icmp .eq 77, 3) := by decide +kernel
theorem dL_law_1163 : decode cL_law 1163 = .ok (.iconst 0, 1) := by decide +kernel
theorem dL_law_1164 : decode cL_law 1164 = .ok (.ireturn, 1) := by decide +kernel
theorem dL_law_1165 : decode cL_law 1165 = .ok (.aload_n 1, 1) := by decide +kernel
theorem dL_law_1166 : decode cL_law 1166 = .ok (.invokevirtual 153, 3) := by decide +kernel
theorem dL_law_1169 : decode cL_law 1169 = .ok (.aload_n 2, 1) := by decide +kernel
theorem dL_law_1170 : decode cL_law 1170 = .ok (.invokevirtual 156, 3) := by decide +kernel
theorem dL_law_1173 : decode cL_law 1173 = .ok (.if_icmp .eq 64, 3) := by decide +kernel
theorem dL_law_1176 : decode cL_law 1176 = .ok (.iconst 0, 1) := by decide +kernel
theorem dL_law_1177 : decode cL_law 1177 = .ok (.ireturn, 1) := by decide +kernel
theorem dL_law_1178 : decode cL_law 1178 = .ok (.aload_n 1, 1) := by decide +kernel
theorem dL_law_1179 : decode cL_law 1179 = .ok (.invokevirtual 157, 3) := by decide +kernel
theorem dL_law_1182 : decode cL_law 1182 = .ok (.aload_n 2, 1) := by decide +kernel
theorem dL_law_1183 : decode cL_law 1183 = .ok (.invokevirtual 160, 3) := by decide +kernel
theorem dL_law_1186 : decode cL_law 1186 = .ok (.if_icmp .eq 51, 3) := by decide +kernel
theorem dL_law_1189 : decode cL_law 1189 = .ok (.iconst 0, 1) := by decide +kernel
theorem dL_law_1190 : decode cL_law 1190 = .ok (.ireturn, 1) := by decide +kernel
theorem dL_law_1191 : decode cL_law 1191 = .ok (.aload_n 1, 1) := by decide +kernel
theorem dL_law_1192 : decode cL_law 1192 = .ok (.aload_n 0, 1) := by decide +kernel
theorem dL_law_1193 : decode cL_law 1193 = .ok (.iload_n 3, 1) := by decide +kernel
theorem dL_law_1194 : decode cL_law 1194 = .ok (.iconst 1, 1) := by decide +kernel
theorem dL_law_1195 : decode cL_law 1195 = .ok (.iadd, 1) := by decide +kernel
theorem dL_law_1196 : decode cL_law 1196 = .ok (.iaload, 1) := by decide +kernel
theorem dL_law_1197 : decode cL_law 1197 = .ok (.invokevirtual 161, 3) := by decide +kernel
theorem dL_law_1200 : decode cL_law 1200 = .ok (.aload_n 2, 1) := by decide +kernel
theorem dL_law_1201 : decode cL_law 1201 = .ok (.aload_n 0, 1) := by decide +kernel
theorem dL_law_1202 : decode cL_law 1202 = .ok (.iload_n 3, 1) := by decide +kernel
theorem dL_law_1203 : decode cL_law 1203 = .ok (.iconst 1, 1) := by decide +kernel
theorem dL_law_1204 : decode cL_law 1204 = .ok (.iadd, 1) := by decide +kernel
theorem dL_law_1205 : decode cL_law 1205 = .ok (.iaload, 1) := by decide +kernel
theorem dL_law_1206 : decode cL_law 1206 = .ok (.invokevirtual 164, 3) := by decide +kernel
theorem dL_law_1209 : decode cL_law 1209 = .ok (.if_icmp .eq 28, 3) := by decide +kernel
theorem dL_law_1212 : decode cL_law 1212 = .ok (.iconst 0, 1) := by decide +kernel
theorem dL_law_1213 : decode cL_law 1213 = .ok (.ireturn, 1) := by decide +kernel
theorem dL_law_1214 : decode cL_law 1214 = .ok (.aload_n 1, 1) := by decide +kernel
theorem dL_law_1215 : decode cL_law 1215 = .ok (.aload_n 0, 1) := by decide +kernel
theorem dL_law_1216 : decode cL_law 1216 = .ok (.iload_n 3, 1) := by decide +kernel
theorem dL_law_1217 : decode cL_law 1217 = .ok (.iconst 1, 1) := by decide +kernel
theorem dL_law_1218 : decode cL_law 1218 = .ok (.iadd, 1) := by decide +kernel
theorem dL_law_1219 : decode cL_law 1219 = .ok (.iaload, 1) := by decide +kernel
theorem dL_law_1220 : decode cL_law 1220 = .ok (.invokevirtual 165, 3) := by decide +kernel
theorem dL_law_1223 : decode cL_law 1223 = .ok (.aload_n 2, 1) := by decide +kernel
theorem dL_law_1224 : decode cL_law 1224 = .ok (.aload_n 0, 1) := by decide +kernel
theorem dL_law_1225 : decode cL_law 1225 = .ok (.iload_n 3, 1) := by decide +kernel
theorem dL_law_1226 : decode cL_law 1226 = .ok (.iconst 1, 1) := by decide +kernel
theorem dL_law_1227 : decode cL_law 1227 = .ok (.iadd, 1) := by decide +kernel
theorem dL_law_1228 : decode cL_law 1228 = .ok (.iaload, 1) := by decide +kernel
theorem dL_law_1229 : decode cL_law 1229 = .ok (.invokevirtual 168, 3) := by decide +kernel
theorem dL_law_1232 : decode cL_law 1232 = .ok (.if_icmp .eq 5, 3) := by decide +kernel
theorem dL_law_1235 : decode cL_law 1235 = .ok (.iconst 0, 1) := by decide +kernel
theorem dL_law_1236 : decode cL_law 1236 = .ok (.ireturn, 1) := by decide +kernel
theorem dL_law_1237 : decode cL_law 1237 = .ok (.iinc 3 6, 3) := by decide +kernel
theorem dL_law_1240 : decode cL_law 1240 = .ok (.goto (-1222), 3) := by decide +kernel
theorem dL_law_1243 : decode cL_law 1243 = .ok (.iconst 1, 1) := by decide +kernel
theorem dL_law_1244 : decode cL_law 1244 = .ok (.ireturn, 1) := by decide +kernel
end
section
/-! THE PURE SIDE'S WORDS: a state is what the int fields and int rows of the objects hold: component, field, place -/
abbrev S3 : Type := Nat → Nat → Nat → Int32
def upA (σ : S3) (c f : Nat) (g : Nat → Int32) : S3 := fun a => if a = c then (fun b => if b = f then g else σ c b) else σ a
def up (σ : S3) (c f j : Nat) (v : Int32) : S3 := upA σ c f (upd (σ c f) j v)
abbrev ix (i : Int32) : Nat := i.toNatClampNeg
def nm {α β : Type} (a : α) (f : α → β) : β := f a
def bd {β : Type} (x : Option (Int32 × S3)) (f : Int32 → S3 → Option β) : Option β := match x with
  | none => none
  | some q => f q.1 q.2
def ck {β : Type} (i : Int32) (n : Nat) (x : Option β) : Option β := if i < 0 ∨ n ≤ i.toNatClampNeg then none else x
def ckz {β : Type} (y : Int32) (x : Option β) : Option β := if y = 0 then none else x
def ckb {β : Type} (v : Int32) (x : Option β) : Option β := if v = 0 ∨ v = 1 then x else none
def ckc {β : Type} (sp dp n : Int32) (n0 n1 : Nat) (x : Option β) : Option β := if ¬ sp < 0 ∧ ¬ dp < 0 ∧ ¬ n < 0 ∧ ix sp + ix n ≤ n0 ∧ ix dp + ix n ≤ n1 then x else none
theorem bd_inv {β : Type} {x : Option (Int32 × S3)} {f : Int32 → S3 → Option β} {ρ : β} (h : bd x f = some ρ) : ∃ r σ, x = some (r, σ) ∧ f r σ = some ρ := by
  cases x with
  | none => cases h
  | some q => exact ⟨q.1, q.2, rfl, h⟩
theorem bd_some {β : Type} (r : Int32) (σ : S3) (f : Int32 → S3 → Option β) : bd (some (r, σ)) f = f r σ := rfl
theorem ck_inv {β : Type} {i : Int32} {n : Nat} {x : Option β} {ρ : β} (h : ck i n x = some ρ) : vp_in i n ∧ x = some ρ := by
  unfold ck at h
  split at h
  · cases h
  · exact ⟨by assumption, h⟩
theorem ckz_inv {β : Type} {y : Int32} {x : Option β} {ρ : β} (h : ckz y x = some ρ) : ¬ y = 0 ∧ x = some ρ := by
  unfold ckz at h
  split at h
  · cases h
  · exact ⟨by assumption, h⟩
theorem ckb_inv {β : Type} {y : Int32} {x : Option β} {ρ : β} (h : ckb y x = some ρ) : (y = 0 ∨ y = 1) ∧ x = some ρ := by
  unfold ckb at h
  split at h
  · exact ⟨by assumption, h⟩
  · cases h
theorem ckc_inv {β : Type} {sp dp n : Int32} {n0 n1 : Nat} {x : Option β} {ρ : β} (h : ckc sp dp n n0 n1 x = some ρ) : (¬ sp < 0 ∧ ¬ dp < 0 ∧ ¬ n < 0 ∧ ix sp + ix n ≤ n0 ∧ ix dp + ix n ≤ n1) ∧ x = some ρ := by
  unfold ckc at h
  split at h
  · exact ⟨by assumption, h⟩
  · cases h
/-- how often a loop may turn: more than any does -/
def zF : Nat := 100000
def zl0 {β : Type} (b : (S3 → Option β) → S3 → Option β) : Nat → S3 → Option β
  | 0, _ => none
  | n + 1, σ => b (zl0 b n)  σ
theorem zl0_0 {β : Type} (b : (S3 → Option β) → S3 → Option β)  : zl0 b 0 = fun _ => none := by funext  σ; rfl
theorem zl0_s {β : Type} (b : (S3 → Option β) → S3 → Option β) (n : Nat) : zl0 b (n + 1) = b (zl0 b n) := by funext  σ; rfl
def zl1 {A1 β : Type} (b : (A1 → S3 → Option β) → A1 → S3 → Option β) : Nat → A1 → S3 → Option β
  | 0, _, _ => none
  | n + 1, a1, σ => b (zl1 b n) a1 σ
theorem zl1_0 {A1 β : Type} (b : (A1 → S3 → Option β) → A1 → S3 → Option β)  : zl1 b 0 = fun _ _ => none := by funext a1 σ; rfl
theorem zl1_s {A1 β : Type} (b : (A1 → S3 → Option β) → A1 → S3 → Option β) (n : Nat) : zl1 b (n + 1) = b (zl1 b n) := by funext a1 σ; rfl
def zl2 {A1 A2 β : Type} (b : (A1 → A2 → S3 → Option β) → A1 → A2 → S3 → Option β) : Nat → A1 → A2 → S3 → Option β
  | 0, _, _, _ => none
  | n + 1, a1, a2, σ => b (zl2 b n) a1 a2 σ
theorem zl2_0 {A1 A2 β : Type} (b : (A1 → A2 → S3 → Option β) → A1 → A2 → S3 → Option β)  : zl2 b 0 = fun _ _ _ => none := by funext a1 a2 σ; rfl
theorem zl2_s {A1 A2 β : Type} (b : (A1 → A2 → S3 → Option β) → A1 → A2 → S3 → Option β) (n : Nat) : zl2 b (n + 1) = b (zl2 b n) := by funext a1 a2 σ; rfl
def zl3 {A1 A2 A3 β : Type} (b : (A1 → A2 → A3 → S3 → Option β) → A1 → A2 → A3 → S3 → Option β) : Nat → A1 → A2 → A3 → S3 → Option β
  | 0, _, _, _, _ => none
  | n + 1, a1, a2, a3, σ => b (zl3 b n) a1 a2 a3 σ
theorem zl3_0 {A1 A2 A3 β : Type} (b : (A1 → A2 → A3 → S3 → Option β) → A1 → A2 → A3 → S3 → Option β)  : zl3 b 0 = fun _ _ _ _ => none := by funext a1 a2 a3 σ; rfl
theorem zl3_s {A1 A2 A3 β : Type} (b : (A1 → A2 → A3 → S3 → Option β) → A1 → A2 → A3 → S3 → Option β) (n : Nat) : zl3 b (n + 1) = b (zl3 b n) := by funext a1 a2 a3 σ; rfl
def zl4 {A1 A2 A3 A4 β : Type} (b : (A1 → A2 → A3 → A4 → S3 → Option β) → A1 → A2 → A3 → A4 → S3 → Option β) : Nat → A1 → A2 → A3 → A4 → S3 → Option β
  | 0, _, _, _, _, _ => none
  | n + 1, a1, a2, a3, a4, σ => b (zl4 b n) a1 a2 a3 a4 σ
theorem zl4_0 {A1 A2 A3 A4 β : Type} (b : (A1 → A2 → A3 → A4 → S3 → Option β) → A1 → A2 → A3 → A4 → S3 → Option β)  : zl4 b 0 = fun _ _ _ _ _ => none := by funext a1 a2 a3 a4 σ; rfl
theorem zl4_s {A1 A2 A3 A4 β : Type} (b : (A1 → A2 → A3 → A4 → S3 → Option β) → A1 → A2 → A3 → A4 → S3 → Option β) (n : Nat) : zl4 b (n + 1) = b (zl4 b n) := by funext a1 a2 a3 a4 σ; rfl
def zl5 {A1 A2 A3 A4 A5 β : Type} (b : (A1 → A2 → A3 → A4 → A5 → S3 → Option β) → A1 → A2 → A3 → A4 → A5 → S3 → Option β) : Nat → A1 → A2 → A3 → A4 → A5 → S3 → Option β
  | 0, _, _, _, _, _, _ => none
  | n + 1, a1, a2, a3, a4, a5, σ => b (zl5 b n) a1 a2 a3 a4 a5 σ
theorem zl5_0 {A1 A2 A3 A4 A5 β : Type} (b : (A1 → A2 → A3 → A4 → A5 → S3 → Option β) → A1 → A2 → A3 → A4 → A5 → S3 → Option β)  : zl5 b 0 = fun _ _ _ _ _ _ => none := by funext a1 a2 a3 a4 a5 σ; rfl
theorem zl5_s {A1 A2 A3 A4 A5 β : Type} (b : (A1 → A2 → A3 → A4 → A5 → S3 → Option β) → A1 → A2 → A3 → A4 → A5 → S3 → Option β) (n : Nat) : zl5 b (n + 1) = b (zl5 b n) := by funext a1 a2 a3 a4 a5 σ; rfl
def zl6 {A1 A2 A3 A4 A5 A6 β : Type} (b : (A1 → A2 → A3 → A4 → A5 → A6 → S3 → Option β) → A1 → A2 → A3 → A4 → A5 → A6 → S3 → Option β) : Nat → A1 → A2 → A3 → A4 → A5 → A6 → S3 → Option β
  | 0, _, _, _, _, _, _, _ => none
  | n + 1, a1, a2, a3, a4, a5, a6, σ => b (zl6 b n) a1 a2 a3 a4 a5 a6 σ
theorem zl6_0 {A1 A2 A3 A4 A5 A6 β : Type} (b : (A1 → A2 → A3 → A4 → A5 → A6 → S3 → Option β) → A1 → A2 → A3 → A4 → A5 → A6 → S3 → Option β)  : zl6 b 0 = fun _ _ _ _ _ _ _ => none := by funext a1 a2 a3 a4 a5 a6 σ; rfl
theorem zl6_s {A1 A2 A3 A4 A5 A6 β : Type} (b : (A1 → A2 → A3 → A4 → A5 → A6 → S3 → Option β) → A1 → A2 → A3 → A4 → A5 → A6 → S3 → Option β) (n : Nat) : zl6 b (n + 1) = b (zl6 b n) := by funext a1 a2 a3 a4 a5 a6 σ; rfl
def zl7 {A1 A2 A3 A4 A5 A6 A7 β : Type} (b : (A1 → A2 → A3 → A4 → A5 → A6 → A7 → S3 → Option β) → A1 → A2 → A3 → A4 → A5 → A6 → A7 → S3 → Option β) : Nat → A1 → A2 → A3 → A4 → A5 → A6 → A7 → S3 → Option β
  | 0, _, _, _, _, _, _, _, _ => none
  | n + 1, a1, a2, a3, a4, a5, a6, a7, σ => b (zl7 b n) a1 a2 a3 a4 a5 a6 a7 σ
theorem zl7_0 {A1 A2 A3 A4 A5 A6 A7 β : Type} (b : (A1 → A2 → A3 → A4 → A5 → A6 → A7 → S3 → Option β) → A1 → A2 → A3 → A4 → A5 → A6 → A7 → S3 → Option β)  : zl7 b 0 = fun _ _ _ _ _ _ _ _ => none := by funext a1 a2 a3 a4 a5 a6 a7 σ; rfl
theorem zl7_s {A1 A2 A3 A4 A5 A6 A7 β : Type} (b : (A1 → A2 → A3 → A4 → A5 → A6 → A7 → S3 → Option β) → A1 → A2 → A3 → A4 → A5 → A6 → A7 → S3 → Option β) (n : Nat) : zl7 b (n + 1) = b (zl7 b n) := by funext a1 a2 a3 a4 a5 a6 a7 σ; rfl
def zl8 {A1 A2 A3 A4 A5 A6 A7 A8 β : Type} (b : (A1 → A2 → A3 → A4 → A5 → A6 → A7 → A8 → S3 → Option β) → A1 → A2 → A3 → A4 → A5 → A6 → A7 → A8 → S3 → Option β) : Nat → A1 → A2 → A3 → A4 → A5 → A6 → A7 → A8 → S3 → Option β
  | 0, _, _, _, _, _, _, _, _, _ => none
  | n + 1, a1, a2, a3, a4, a5, a6, a7, a8, σ => b (zl8 b n) a1 a2 a3 a4 a5 a6 a7 a8 σ
theorem zl8_0 {A1 A2 A3 A4 A5 A6 A7 A8 β : Type} (b : (A1 → A2 → A3 → A4 → A5 → A6 → A7 → A8 → S3 → Option β) → A1 → A2 → A3 → A4 → A5 → A6 → A7 → A8 → S3 → Option β)  : zl8 b 0 = fun _ _ _ _ _ _ _ _ _ => none := by funext a1 a2 a3 a4 a5 a6 a7 a8 σ; rfl
theorem zl8_s {A1 A2 A3 A4 A5 A6 A7 A8 β : Type} (b : (A1 → A2 → A3 → A4 → A5 → A6 → A7 → A8 → S3 → Option β) → A1 → A2 → A3 → A4 → A5 → A6 → A7 → A8 → S3 → Option β) (n : Nat) : zl8 b (n + 1) = b (zl8 b n) := by funext a1 a2 a3 a4 a5 a6 a7 a8 σ; rfl
def zl9 {A1 A2 A3 A4 A5 A6 A7 A8 A9 β : Type} (b : (A1 → A2 → A3 → A4 → A5 → A6 → A7 → A8 → A9 → S3 → Option β) → A1 → A2 → A3 → A4 → A5 → A6 → A7 → A8 → A9 → S3 → Option β) : Nat → A1 → A2 → A3 → A4 → A5 → A6 → A7 → A8 → A9 → S3 → Option β
  | 0, _, _, _, _, _, _, _, _, _, _ => none
  | n + 1, a1, a2, a3, a4, a5, a6, a7, a8, a9, σ => b (zl9 b n) a1 a2 a3 a4 a5 a6 a7 a8 a9 σ
theorem zl9_0 {A1 A2 A3 A4 A5 A6 A7 A8 A9 β : Type} (b : (A1 → A2 → A3 → A4 → A5 → A6 → A7 → A8 → A9 → S3 → Option β) → A1 → A2 → A3 → A4 → A5 → A6 → A7 → A8 → A9 → S3 → Option β)  : zl9 b 0 = fun _ _ _ _ _ _ _ _ _ _ => none := by funext a1 a2 a3 a4 a5 a6 a7 a8 a9 σ; rfl
theorem zl9_s {A1 A2 A3 A4 A5 A6 A7 A8 A9 β : Type} (b : (A1 → A2 → A3 → A4 → A5 → A6 → A7 → A8 → A9 → S3 → Option β) → A1 → A2 → A3 → A4 → A5 → A6 → A7 → A8 → A9 → S3 → Option β) (n : Nat) : zl9 b (n + 1) = b (zl9 b n) := by funext a1 a2 a3 a4 a5 a6 a7 a8 a9 σ; rfl
def zl10 {A1 A2 A3 A4 A5 A6 A7 A8 A9 A10 β : Type} (b : (A1 → A2 → A3 → A4 → A5 → A6 → A7 → A8 → A9 → A10 → S3 → Option β) → A1 → A2 → A3 → A4 → A5 → A6 → A7 → A8 → A9 → A10 → S3 → Option β) : Nat → A1 → A2 → A3 → A4 → A5 → A6 → A7 → A8 → A9 → A10 → S3 → Option β
  | 0, _, _, _, _, _, _, _, _, _, _, _ => none
  | n + 1, a1, a2, a3, a4, a5, a6, a7, a8, a9, a10, σ => b (zl10 b n) a1 a2 a3 a4 a5 a6 a7 a8 a9 a10 σ
theorem zl10_0 {A1 A2 A3 A4 A5 A6 A7 A8 A9 A10 β : Type} (b : (A1 → A2 → A3 → A4 → A5 → A6 → A7 → A8 → A9 → A10 → S3 → Option β) → A1 → A2 → A3 → A4 → A5 → A6 → A7 → A8 → A9 → A10 → S3 → Option β)  : zl10 b 0 = fun _ _ _ _ _ _ _ _ _ _ _ => none := by funext a1 a2 a3 a4 a5 a6 a7 a8 a9 a10 σ; rfl
theorem zl10_s {A1 A2 A3 A4 A5 A6 A7 A8 A9 A10 β : Type} (b : (A1 → A2 → A3 → A4 → A5 → A6 → A7 → A8 → A9 → A10 → S3 → Option β) → A1 → A2 → A3 → A4 → A5 → A6 → A7 → A8 → A9 → A10 → S3 → Option β) (n : Nat) : zl10 b (n + 1) = b (zl10 b n) := by funext a1 a2 a3 a4 a5 a6 a7 a8 a9 a10 σ; rfl
/-! THE MACHINE'S SIDE: a frame of a run, in one word -/
def zt : List Cond := lw_tbl.filter goodWord
theorem zt_in {w : Cond} (h : w ∈ lw_tbl) (g : goodWord w = true) : w ∈ zt := List.mem_filter.mpr ⟨h, g⟩
theorem zt_at {w : Cond} (i : Nat) (h : lw_tbl[i]? = some w ∧ goodWord w = true) : w ∈ zt := zt_in (List.mem_of_getElem? h.1) h.2
abbrev zV : Type := (Nat × Nat × Nat) × (Nat → Nat) × (Nat → Nat → Nat)
def zty (ε : zV) : List (ClassId × FieldType) := [(ε.1.1, .int), (ε.1.2.1, .boolean), (ε.1.2.2, .object "MarkerWalks$Sheet")]
abbrev zW : Type := Launch × va_G × (Nat → Prop) × zV
abbrev zT : Type := zW × Program × Env × Room × State × MethodId × Array Value × List Frame × Method × Code × (State → Prop)
abbrev ze (ζ : zW) : zV := ζ.2.2.2
abbrev zo (ζ : zW) (c : Nat) : Nat := ζ.2.2.2.2.1 c
abbrev za (ζ : zW) (c f : Nat) : Nat := ζ.2.2.2.2.2 c f
def Z (κ : zT) (nL : Nat) (ws : va_W) (lv : List (Nat × Value)) (pc : Nat) (st : List Value) : Prop := match κ with
  | ((l, D, A, ε), p, e, R, s, m, args, below, meth, c, Q) => ∀ (H : Heap) (locs : List Loc) (ls : Array Slot), va_P D vwCl ws H → va_S A s.heap H locs → lv_has ls nL lv → W p l e R s m args below meth c H locs 0 0 Q (F0 m pc ls st)
def zC0 (κ : zT) (own : String) (cc : ByteArray) (nL d : Nat) : Prop := match κ with
  | ((l, D, A, ε), p, e, R, s, m, args, below, meth, c, Q) => p.tables.exec = Jvm.exec ∧ c.code = cc ∧ c.maxLocals = nL ∧ s.vm.findClass own = some m.cls ∧ (∀ w ∈ zt, w.before args s = true) ∧ d ≤ R.frames ∧ 40 * d ≤ R.locals ∧ va_K D vwCl (zty ε) s ∧ meth.locks = false
def zQc (ζ : zW) (wd : zV → S3 → va_W) (rv : Option Value) (σ' : S3) : Array Value → State → Outcome → State → Prop := fun _ st o t => o = .returned rv ∧ va_P ζ.2.1 vwCl (wd (ze ζ) σ') t.heap ∧ va_F ζ.2.2.1 st t
def zDis (ζ : zW) (wd : zV → S3 → va_W) : Prop := ∀ σ : S3, va_D ζ.2.2.1 (wd (ze ζ) σ)
def zC (κ : zT) (wd : zV → S3 → va_W) (own : String) (cc : ByteArray) (nL : Nat) (ret : Option FieldType) (d : Nat) (rv : Option Value) (σ' : S3) : Prop := zC0 κ own cc nL d ∧ zDis κ.1 wd ∧ match κ with
  | (ζ, p, e, R, s, m, args, below, meth, c, Q) => meth.sig.returnType = ret ∧ Q = MQ below (zQc ζ wd rv σ') args s 0 0 ζ.2.2.1
def zws (y : MethodName) (cc : ByteArray) (nL : Nat) (ret : Option FieldType) : List Cond := .code y cc nL ret :: zt
def zMet (ζ : zW) (wd : zV → S3 → va_W) (d : Nat) (y : MethodName) (cc : ByteArray) (nL : Nat) (ret : Option FieldType) (av : List Value) (σ : S3) (rv : Option Value) (σ' : S3) : Prop :=
  Met ζ.1 y (zws y cc nL ret) { frames := d, cells := 0, slots := 0, locals := 40 * d } (va_Pc av (fun U => va_P ζ.2.1 vwCl (wd (ze ζ) σ) U.heap ∧ va_K ζ.2.1 vwCl (zty (ze ζ)) U)) (zQc ζ wd rv σ') 0 0 ζ.2.2.1
theorem zgoodIn {ws : List Cond} (h : ∀ w ∈ ws, w ∈ zt) : GoodIn zt ws := fun w hw => ⟨h w hw, good_of_word (List.mem_filter.mp (h w hw)).2⟩
theorem zgV {own : String} {idx : Nat} {C : String} {y : MethodName} {cc : ByteArray} {nL : Nat} {ret : Option FieldType} (h1 : Cond.methodLink own idx y ∈ zt) (h2 : Cond.instanceMethod y ∈ zt) (h3 : Cond.selects C y y ∈ zt) (h4 : Cond.initialized C ∈ zt) (h5 : Cond.code y cc nL ret ∈ zt) : GoodIn zt (wsV own idx C y (zws y cc nL ret)) := by
  refine zgoodIn (fun w hw => ?_)
  unfold wsV zws at hw
  simp only [List.cons_append, List.nil_append, List.mem_cons] at hw
  rcases hw with rfl | rfl | rfl | rfl | rfl | hw
  · exact h1
  · exact h2
  · exact h3
  · exact h4
  · exact h5
  · exact hw
theorem zgS {own : String} {idx : Nat} {y : MethodName} {cc : ByteArray} {nL : Nat} {ret : Option FieldType} (h1 : Cond.methodLink own idx y ∈ zt) (h2 : Cond.static y ∈ zt) (h4 : Cond.initialized y.cls ∈ zt) (h5 : Cond.code y cc nL ret ∈ zt) : GoodIn zt (va_wsS own idx y (zws y cc nL ret)) := by
  refine zgoodIn (fun w hw => ?_)
  unfold va_wsS zws at hw
  simp only [List.cons_append, List.nil_append, List.mem_cons] at hw
  rcases hw with rfl | rfl | rfl | rfl | hw
  · exact h1
  · exact h2
  · exact h4
  · exact h5
  · exact hw
section ZROWS
variable {κ : zT} {own : String} {cc : ByteArray} {nL d : Nat} {ws : va_W} {lv : List (Nat × Value)} {pc : Nat} {st : List Value}
theorem z_sub {lv' : List (Nat × Value)} (ks : List Nat) (hl : lv_pick lv ks = lv') (k : Z κ nL ws lv' pc st) : Z κ nL ws lv pc st := by
  obtain ⟨⟨l, D, A, ε⟩, p, e, R, s, m, args, below, meth, c, Q⟩ := κ
  exact fun H locs ls hP hS hl0 => k H locs ls hP hS (lv_sub hl0 ks hl)
theorem z_iadd {x y : Int32} (X : zC0 κ own cc nL d) (hdg : decode cc pc = .ok (.iadd, 1)) (k : Z κ nL ws lv (pc + 1) (.int (x + y) :: st)) : Z κ nL ws lv pc (.int y :: .int x :: st) := by
  obtain ⟨⟨l, D, A, ε⟩, p, e, R, s, m, args, below, meth, c, Q⟩ := κ
  obtain ⟨hx, hb, hml, hown, hts, hfr, hlo, hK, hlk⟩ := X
  exact fun H locs ls hP hS hl => lv_iadd hx hb hdg (k H locs ls hP hS hl)
theorem z_isub {x y : Int32} (X : zC0 κ own cc nL d) (hdg : decode cc pc = .ok (.isub, 1)) (k : Z κ nL ws lv (pc + 1) (.int (x - y) :: st)) : Z κ nL ws lv pc (.int y :: .int x :: st) := by
  obtain ⟨⟨l, D, A, ε⟩, p, e, R, s, m, args, below, meth, c, Q⟩ := κ
  obtain ⟨hx, hb, hml, hown, hts, hfr, hlo, hK, hlk⟩ := X
  exact fun H locs ls hP hS hl => lv_isub hx hb hdg (k H locs ls hP hS hl)
theorem z_imul {x y : Int32} (X : zC0 κ own cc nL d) (hdg : decode cc pc = .ok (.imul, 1)) (k : Z κ nL ws lv (pc + 1) (.int (x * y) :: st)) : Z κ nL ws lv pc (.int y :: .int x :: st) := by
  obtain ⟨⟨l, D, A, ε⟩, p, e, R, s, m, args, below, meth, c, Q⟩ := κ
  obtain ⟨hx, hb, hml, hown, hts, hfr, hlo, hK, hlk⟩ := X
  exact fun H locs ls hP hS hl => lv_imul hx hb hdg (k H locs ls hP hS hl)
theorem z_iand {x y : Int32} (X : zC0 κ own cc nL d) (hdg : decode cc pc = .ok (.iand, 1)) (k : Z κ nL ws lv (pc + 1) (.int (x &&& y) :: st)) : Z κ nL ws lv pc (.int y :: .int x :: st) := by
  obtain ⟨⟨l, D, A, ε⟩, p, e, R, s, m, args, below, meth, c, Q⟩ := κ
  obtain ⟨hx, hb, hml, hown, hts, hfr, hlo, hK, hlk⟩ := X
  exact fun H locs ls hP hS hl => lv_iand hx hb hdg (k H locs ls hP hS hl)
theorem z_ior {x y : Int32} (X : zC0 κ own cc nL d) (hdg : decode cc pc = .ok (.ior, 1)) (k : Z κ nL ws lv (pc + 1) (.int (x ||| y) :: st)) : Z κ nL ws lv pc (.int y :: .int x :: st) := by
  obtain ⟨⟨l, D, A, ε⟩, p, e, R, s, m, args, below, meth, c, Q⟩ := κ
  obtain ⟨hx, hb, hml, hown, hts, hfr, hlo, hK, hlk⟩ := X
  exact fun H locs ls hP hS hl => lv_ior hx hb hdg (k H locs ls hP hS hl)
theorem z_ixor {x y : Int32} (X : zC0 κ own cc nL d) (hdg : decode cc pc = .ok (.ixor, 1)) (k : Z κ nL ws lv (pc + 1) (.int (x ^^^ y) :: st)) : Z κ nL ws lv pc (.int y :: .int x :: st) := by
  obtain ⟨⟨l, D, A, ε⟩, p, e, R, s, m, args, below, meth, c, Q⟩ := κ
  obtain ⟨hx, hb, hml, hown, hts, hfr, hlo, hK, hlk⟩ := X
  exact fun H locs ls hP hS hl => lv_ixor hx hb hdg (k H locs ls hP hS hl)
theorem z_ishl {x y : Int32} (X : zC0 κ own cc nL d) (hdg : decode cc pc = .ok (.ishl, 1)) (k : Z κ nL ws lv (pc + 1) (.int (x <<< (y &&& 31)) :: st)) : Z κ nL ws lv pc (.int y :: .int x :: st) := by
  obtain ⟨⟨l, D, A, ε⟩, p, e, R, s, m, args, below, meth, c, Q⟩ := κ
  obtain ⟨hx, hb, hml, hown, hts, hfr, hlo, hK, hlk⟩ := X
  exact fun H locs ls hP hS hl => lv_ishl hx hb hdg (k H locs ls hP hS hl)
theorem z_ishr {x y : Int32} (X : zC0 κ own cc nL d) (hdg : decode cc pc = .ok (.ishr, 1)) (k : Z κ nL ws lv (pc + 1) (.int (x >>> (y &&& 31)) :: st)) : Z κ nL ws lv pc (.int y :: .int x :: st) := by
  obtain ⟨⟨l, D, A, ε⟩, p, e, R, s, m, args, below, meth, c, Q⟩ := κ
  obtain ⟨hx, hb, hml, hown, hts, hfr, hlo, hK, hlk⟩ := X
  exact fun H locs ls hP hS hl => lv_ishr hx hb hdg (k H locs ls hP hS hl)
theorem z_ineg {x : Int32} (X : zC0 κ own cc nL d) (hdg : decode cc pc = .ok (.ineg, 1)) (k : Z κ nL ws lv (pc + 1) (.int (-x) :: st)) : Z κ nL ws lv pc (.int x :: st) := by
  obtain ⟨⟨l, D, A, ε⟩, p, e, R, s, m, args, below, meth, c, Q⟩ := κ
  obtain ⟨hx, hb, hml, hown, hts, hfr, hlo, hK, hlk⟩ := X
  exact fun H locs ls hP hS hl => lv_ineg hx hb hdg (k H locs ls hP hS hl)
theorem z_iushr {x y : Int32} (X : zC0 κ own cc nL d) (hdg : decode cc pc = .ok (.iushr, 1)) (k : Z κ nL ws lv (pc + 1) (.int (x.toUInt32 >>> (y.toUInt32 &&& Int32.toUInt32 31)).toInt32 :: st)) : Z κ nL ws lv pc (.int y :: .int x :: st) := by
  obtain ⟨⟨l, D, A, ε⟩, p, e, R, s, m, args, below, meth, c, Q⟩ := κ
  obtain ⟨hx, hb, hml, hown, hts, hfr, hlo, hK, hlk⟩ := X
  exact fun H locs ls hP hS hl => lv_iushr hx hb hdg rfl (k H locs ls hP hS hl)
theorem z_i2b {x : Int32} (X : zC0 κ own cc nL d) (hdg : decode cc pc = .ok (.i2b, 1)) (k : Z κ nL ws lv (pc + 1) (.int x.toInt8.toInt32 :: st)) : Z κ nL ws lv pc (.int x :: st) := by
  obtain ⟨⟨l, D, A, ε⟩, p, e, R, s, m, args, below, meth, c, Q⟩ := κ
  obtain ⟨hx, hb, hml, hown, hts, hfr, hlo, hK, hlk⟩ := X
  exact fun H locs ls hP hS hl => lv_i2b hx hb hdg rfl (k H locs ls hP hS hl)
theorem z_i2s {x : Int32} (X : zC0 κ own cc nL d) (hdg : decode cc pc = .ok (.i2s, 1)) (k : Z κ nL ws lv (pc + 1) (.int x.toInt16.toInt32 :: st)) : Z κ nL ws lv pc (.int x :: st) := by
  obtain ⟨⟨l, D, A, ε⟩, p, e, R, s, m, args, below, meth, c, Q⟩ := κ
  obtain ⟨hx, hb, hml, hown, hts, hfr, hlo, hK, hlk⟩ := X
  exact fun H locs ls hP hS hl => lv_i2s hx hb hdg rfl (k H locs ls hP hS hl)
theorem z_i2l {x : Int32} (X : zC0 κ own cc nL d) (hdg : decode cc pc = .ok (.i2l, 1)) (k : Z κ nL ws lv (pc + 1) (.long x.toInt64 :: st)) : Z κ nL ws lv pc (.int x :: st) := by
  obtain ⟨⟨l, D, A, ε⟩, p, e, R, s, m, args, below, meth, c, Q⟩ := κ
  obtain ⟨hx, hb, hml, hown, hts, hfr, hlo, hK, hlk⟩ := X
  exact fun H locs ls hP hS hl => lv_i2l hx hb hdg rfl (k H locs ls hP hS hl)
theorem z_l2i {x : Int64} (X : zC0 κ own cc nL d) (hdg : decode cc pc = .ok (.l2i, 1)) (k : Z κ nL ws lv (pc + 1) (.int x.toInt32 :: st)) : Z κ nL ws lv pc (.long x :: st) := by
  obtain ⟨⟨l, D, A, ε⟩, p, e, R, s, m, args, below, meth, c, Q⟩ := κ
  obtain ⟨hx, hb, hml, hown, hts, hfr, hlo, hK, hlk⟩ := X
  exact fun H locs ls hP hS hl => lv_l2i hx hb hdg rfl (k H locs ls hP hS hl)
theorem z_land {x y : Int64} (X : zC0 κ own cc nL d) (hdg : decode cc pc = .ok (.land, 1)) (k : Z κ nL ws lv (pc + 1) (.long (x &&& y) :: st)) : Z κ nL ws lv pc (.long y :: .long x :: st) := by
  obtain ⟨⟨l, D, A, ε⟩, p, e, R, s, m, args, below, meth, c, Q⟩ := κ
  obtain ⟨hx, hb, hml, hown, hts, hfr, hlo, hK, hlk⟩ := X
  exact fun H locs ls hP hS hl => lv_land hx hb hdg (k H locs ls hP hS hl)
theorem z_lor {x y : Int64} (X : zC0 κ own cc nL d) (hdg : decode cc pc = .ok (.lor, 1)) (k : Z κ nL ws lv (pc + 1) (.long (x ||| y) :: st)) : Z κ nL ws lv pc (.long y :: .long x :: st) := by
  obtain ⟨⟨l, D, A, ε⟩, p, e, R, s, m, args, below, meth, c, Q⟩ := κ
  obtain ⟨hx, hb, hml, hown, hts, hfr, hlo, hK, hlk⟩ := X
  exact fun H locs ls hP hS hl => lv_lor hx hb hdg (k H locs ls hP hS hl)
theorem z_lshl {x : Int64} {y : Int32} (X : zC0 κ own cc nL d) (hdg : decode cc pc = .ok (.lshl, 1)) (k : Z κ nL ws lv (pc + 1) (.long (x <<< (y.toInt64 &&& 63)) :: st)) : Z κ nL ws lv pc (.int y :: .long x :: st) := by
  obtain ⟨⟨l, D, A, ε⟩, p, e, R, s, m, args, below, meth, c, Q⟩ := κ
  obtain ⟨hx, hb, hml, hown, hts, hfr, hlo, hK, hlk⟩ := X
  exact fun H locs ls hP hS hl => lv_lshl hx hb hdg rfl (k H locs ls hP hS hl)
theorem z_lshr {x : Int64} {y : Int32} (X : zC0 κ own cc nL d) (hdg : decode cc pc = .ok (.lshr, 1)) (k : Z κ nL ws lv (pc + 1) (.long (x >>> (y.toInt64 &&& 63)) :: st)) : Z κ nL ws lv pc (.int y :: .long x :: st) := by
  obtain ⟨⟨l, D, A, ε⟩, p, e, R, s, m, args, below, meth, c, Q⟩ := κ
  obtain ⟨hx, hb, hml, hown, hts, hfr, hlo, hK, hlk⟩ := X
  exact fun H locs ls hP hS hl => lv_lshr hx hb hdg rfl (k H locs ls hP hS hl)
theorem z_lushr {x : Int64} {y : Int32} (X : zC0 κ own cc nL d) (hdg : decode cc pc = .ok (.lushr, 1)) (k : Z κ nL ws lv (pc + 1) (.long (x.toUInt64 >>> (y.toInt64.toUInt64 &&& Int64.toUInt64 63)).toInt64 :: st)) : Z κ nL ws lv pc (.int y :: .long x :: st) := by
  obtain ⟨⟨l, D, A, ε⟩, p, e, R, s, m, args, below, meth, c, Q⟩ := κ
  obtain ⟨hx, hb, hml, hown, hts, hfr, hlo, hK, hlk⟩ := X
  exact fun H locs ls hP hS hl => lv_lushr hx hb hdg rfl (k H locs ls hP hS hl)
theorem z_iconst {n : Int} {v : Int32} (X : zC0 κ own cc nL d) (hdg : decode cc pc = .ok (.iconst n, 1)) (hv : Int32.ofInt n = v) (k : Z κ nL ws lv (pc + 1) (.int v :: st)) : Z κ nL ws lv pc (st) := by
  obtain ⟨⟨l, D, A, ε⟩, p, e, R, s, m, args, below, meth, c, Q⟩ := κ
  obtain ⟨hx, hb, hml, hown, hts, hfr, hlo, hK, hlk⟩ := X
  exact fun H locs ls hP hS hl => lv_iconst hx hb hdg hv (k H locs ls hP hS hl)
theorem z_bipush {n : Int} {v : Int32} (X : zC0 κ own cc nL d) (hdg : decode cc pc = .ok (.bipush n, 2)) (hv : (Int8.ofInt n).toInt32 = v) (k : Z κ nL ws lv (pc + 2) (.int v :: st)) : Z κ nL ws lv pc (st) := by
  obtain ⟨⟨l, D, A, ε⟩, p, e, R, s, m, args, below, meth, c, Q⟩ := κ
  obtain ⟨hx, hb, hml, hown, hts, hfr, hlo, hK, hlk⟩ := X
  exact fun H locs ls hP hS hl => lv_bipush hx hb hdg hv (k H locs ls hP hS hl)
theorem z_sipush {n : Int} {v : Int32} (X : zC0 κ own cc nL d) (hdg : decode cc pc = .ok (.sipush n, 3)) (hv : (Int16.ofInt n).toInt32 = v) (k : Z κ nL ws lv (pc + 3) (.int v :: st)) : Z κ nL ws lv pc (st) := by
  obtain ⟨⟨l, D, A, ε⟩, p, e, R, s, m, args, below, meth, c, Q⟩ := κ
  obtain ⟨hx, hb, hml, hown, hts, hfr, hlo, hK, hlk⟩ := X
  exact fun H locs ls hP hS hl => lv_sipush hx hb hdg hv (k H locs ls hP hS hl)
theorem z_ldc {idx : Nat} {v : Int32} (X : zC0 κ own cc nL d) (hdg : decode cc pc = .ok (.ldc idx, 2)) (hw : Cond.constant own idx v ∈ zt) (k : Z κ nL ws lv (pc + 2) (.int v :: st)) : Z κ nL ws lv pc (st) := by
  obtain ⟨⟨l, D, A, ε⟩, p, e, R, s, m, args, below, meth, c, Q⟩ := κ
  obtain ⟨hx, hb, hml, hown, hts, hfr, hlo, hK, hlk⟩ := X
  exact fun H locs ls hP hS hl => lv_ldc hx hb hown (hts _ hw) hdg (k H locs ls hP hS hl)
theorem z_ldc_w {idx : Nat} {v : Int32} (X : zC0 κ own cc nL d) (hdg : decode cc pc = .ok (.ldc_w idx, 3)) (hw : Cond.constant own idx v ∈ zt) (k : Z κ nL ws lv (pc + 3) (.int v :: st)) : Z κ nL ws lv pc (st) := by
  obtain ⟨⟨l, D, A, ε⟩, p, e, R, s, m, args, below, meth, c, Q⟩ := κ
  obtain ⟨hx, hb, hml, hown, hts, hfr, hlo, hK, hlk⟩ := X
  exact fun H locs ls hP hS hl => lv_ldcw hx hb hown (hts _ hw) hdg (k H locs ls hP hS hl)
theorem z_ldc2_w {idx : Nat} {v : Int64} (X : zC0 κ own cc nL d) (hdg : decode cc pc = .ok (.ldc2_w idx, 3)) (hw : Cond.constantLong own idx v ∈ zt) (k : Z κ nL ws lv (pc + 3) (.long v :: st)) : Z κ nL ws lv pc (st) := by
  obtain ⟨⟨l, D, A, ε⟩, p, e, R, s, m, args, below, meth, c, Q⟩ := κ
  obtain ⟨hx, hb, hml, hown, hts, hfr, hlo, hK, hlk⟩ := X
  exact fun H locs ls hP hS hl => lv_ldc2 hx hb hown (hts _ hw) hdg (k H locs ls hP hS hl)
theorem z_iload_n {j : Fin 4} {i : Nat} {x : Int32} (X : zC0 κ own cc nL d) (hdg : decode cc pc = .ok (.iload_n j, 1)) (q : Nat) (hi : (j : Nat) = i) (hq : lv[q]? = some (i, .int x)) (k : Z κ nL ws lv (pc + 1) (.int x :: st)) : Z κ nL ws lv pc (st) := by
  obtain ⟨⟨l, D, A, ε⟩, p, e, R, s, m, args, below, meth, c, Q⟩ := κ
  obtain ⟨hx, hb, hml, hown, hts, hfr, hlo, hK, hlk⟩ := X
  exact fun H locs ls hP hS hl => lv_iload_n hx hb hdg hi (lv_at hl q hq) (k H locs ls hP hS hl)
theorem z_iload {i : Nat} {x : Int32} (X : zC0 κ own cc nL d) (hdg : decode cc pc = .ok (.iload i, 2)) (q : Nat) (hq : lv[q]? = some (i, .int x)) (k : Z κ nL ws lv (pc + 2) (.int x :: st)) : Z κ nL ws lv pc (st) := by
  obtain ⟨⟨l, D, A, ε⟩, p, e, R, s, m, args, below, meth, c, Q⟩ := κ
  obtain ⟨hx, hb, hml, hown, hts, hfr, hlo, hK, hlk⟩ := X
  exact fun H locs ls hP hS hl => lv_iload hx hb hdg (lv_at hl q hq) (k H locs ls hP hS hl)
theorem z_aload_n {j : Fin 4} {i : Nat} {x : Nat} (X : zC0 κ own cc nL d) (hdg : decode cc pc = .ok (.aload_n j, 1)) (q : Nat) (hi : (j : Nat) = i) (hq : lv[q]? = some (i, .ref x)) (k : Z κ nL ws lv (pc + 1) (.ref x :: st)) : Z κ nL ws lv pc (st) := by
  obtain ⟨⟨l, D, A, ε⟩, p, e, R, s, m, args, below, meth, c, Q⟩ := κ
  obtain ⟨hx, hb, hml, hown, hts, hfr, hlo, hK, hlk⟩ := X
  exact fun H locs ls hP hS hl => lv_aload_n hx hb hdg hi (lv_at hl q hq) (k H locs ls hP hS hl)
theorem z_aload {i : Nat} {x : Nat} (X : zC0 κ own cc nL d) (hdg : decode cc pc = .ok (.aload i, 2)) (q : Nat) (hq : lv[q]? = some (i, .ref x)) (k : Z κ nL ws lv (pc + 2) (.ref x :: st)) : Z κ nL ws lv pc (st) := by
  obtain ⟨⟨l, D, A, ε⟩, p, e, R, s, m, args, below, meth, c, Q⟩ := κ
  obtain ⟨hx, hb, hml, hown, hts, hfr, hlo, hK, hlk⟩ := X
  exact fun H locs ls hP hS hl => lv_aload hx hb hdg (lv_at hl q hq) (k H locs ls hP hS hl)
theorem z_lload_n {j : Fin 4} {i : Nat} {x : Int64} (X : zC0 κ own cc nL d) (hdg : decode cc pc = .ok (.lload_n j, 1)) (q : Nat) (hi : (j : Nat) = i) (hq : lv[q]? = some (i, .long x)) (k : Z κ nL ws lv (pc + 1) (.long x :: st)) : Z κ nL ws lv pc (st) := by
  obtain ⟨⟨l, D, A, ε⟩, p, e, R, s, m, args, below, meth, c, Q⟩ := κ
  obtain ⟨hx, hb, hml, hown, hts, hfr, hlo, hK, hlk⟩ := X
  exact fun H locs ls hP hS hl => lv_lload_n hx hb hdg hi (lv_at hl q hq) (k H locs ls hP hS hl)
theorem z_lload {i : Nat} {x : Int64} (X : zC0 κ own cc nL d) (hdg : decode cc pc = .ok (.lload i, 2)) (q : Nat) (hq : lv[q]? = some (i, .long x)) (k : Z κ nL ws lv (pc + 2) (.long x :: st)) : Z κ nL ws lv pc (st) := by
  obtain ⟨⟨l, D, A, ε⟩, p, e, R, s, m, args, below, meth, c, Q⟩ := κ
  obtain ⟨hx, hb, hml, hown, hts, hfr, hlo, hK, hlk⟩ := X
  exact fun H locs ls hP hS hl => lv_lload hx hb hdg (lv_at hl q hq) (k H locs ls hP hS hl)
theorem z_istore_n {j : Fin 4} {i : Nat} {x : Int32} {lv' : List (Nat × Value)} (X : zC0 κ own cc nL d) (hdg : decode cc pc = .ok (.istore_n j, 1)) (hi : (j : Nat) = i) (hn : i < nL) (hl : (i, Value.int x) :: lv.filter (fun q => !(q.1 == i) && !(q.1 + 1 == i && q.2.category == 2)) = lv') (k : Z κ nL ws lv' (pc + 1) st) : Z κ nL ws lv pc (.int x :: st) := by
  obtain ⟨⟨l, D, A, ε⟩, p, e, R, s, m, args, below, meth, c, Q⟩ := κ
  obtain ⟨hx, hb, hml, hown, hts, hfr, hlo, hK, hlk⟩ := X
  exact fun H locs ls hP hS hl0 => lv_istore_n hx hb hdg hi hl0 hn hl (fun ls1 hl1 => k H locs ls1 hP hS hl1)
theorem z_istore {i : Nat} {x : Int32} {lv' : List (Nat × Value)} (X : zC0 κ own cc nL d) (hdg : decode cc pc = .ok (.istore i, 2)) (hn : i < nL) (hl : (i, Value.int x) :: lv.filter (fun q => !(q.1 == i) && !(q.1 + 1 == i && q.2.category == 2)) = lv') (k : Z κ nL ws lv' (pc + 2) st) : Z κ nL ws lv pc (.int x :: st) := by
  obtain ⟨⟨l, D, A, ε⟩, p, e, R, s, m, args, below, meth, c, Q⟩ := κ
  obtain ⟨hx, hb, hml, hown, hts, hfr, hlo, hK, hlk⟩ := X
  exact fun H locs ls hP hS hl0 => lv_istore hx hb hdg hl0 hn hl (fun ls1 hl1 => k H locs ls1 hP hS hl1)
theorem z_astore_n {j : Fin 4} {i : Nat} {x : Nat} {lv' : List (Nat × Value)} (X : zC0 κ own cc nL d) (hdg : decode cc pc = .ok (.astore_n j, 1)) (hi : (j : Nat) = i) (hn : i < nL) (hl : (i, Value.ref x) :: lv.filter (fun q => !(q.1 == i) && !(q.1 + 1 == i && q.2.category == 2)) = lv') (k : Z κ nL ws lv' (pc + 1) st) : Z κ nL ws lv pc (.ref x :: st) := by
  obtain ⟨⟨l, D, A, ε⟩, p, e, R, s, m, args, below, meth, c, Q⟩ := κ
  obtain ⟨hx, hb, hml, hown, hts, hfr, hlo, hK, hlk⟩ := X
  exact fun H locs ls hP hS hl0 => lv_astore_n hx hb hdg hi hl0 hn hl (fun ls1 hl1 => k H locs ls1 hP hS hl1)
theorem z_astore {i : Nat} {x : Nat} {lv' : List (Nat × Value)} (X : zC0 κ own cc nL d) (hdg : decode cc pc = .ok (.astore i, 2)) (hn : i < nL) (hl : (i, Value.ref x) :: lv.filter (fun q => !(q.1 == i) && !(q.1 + 1 == i && q.2.category == 2)) = lv') (k : Z κ nL ws lv' (pc + 2) st) : Z κ nL ws lv pc (.ref x :: st) := by
  obtain ⟨⟨l, D, A, ε⟩, p, e, R, s, m, args, below, meth, c, Q⟩ := κ
  obtain ⟨hx, hb, hml, hown, hts, hfr, hlo, hK, hlk⟩ := X
  exact fun H locs ls hP hS hl0 => lv_astore hx hb hdg hl0 hn hl (fun ls1 hl1 => k H locs ls1 hP hS hl1)
theorem z_iinc {i : Nat} {n : Int} {x v : Int32} {lv' : List (Nat × Value)} (X : zC0 κ own cc nL d) (hdg : decode cc pc = .ok (.iinc i n, 3)) (q : Nat) (hq : lv[q]? = some (i, .int x)) (hv : x + Int32.ofInt n = v) (hn : i < nL) (hl : (i, Value.int v) :: lv.filter (fun q => !(q.1 == i) && !(q.1 + 1 == i && q.2.category == 2)) = lv') (k : Z κ nL ws lv' (pc + 3) st) : Z κ nL ws lv pc st := by
  obtain ⟨⟨l, D, A, ε⟩, p, e, R, s, m, args, below, meth, c, Q⟩ := κ
  obtain ⟨hx, hb, hml, hown, hts, hfr, hlo, hK, hlk⟩ := X
  exact fun H locs ls hP hS hl0 => lv_iinc hx hb hdg hl0 hq hv hn hl (fun ls1 hl1 => k H locs ls1 hP hS hl1)
theorem z_dup {va : Value} (X : zC0 κ own cc nL d) (hdg : decode cc pc = .ok (.dup, 1)) (hva : va.category = 1) (k : Z κ nL ws lv (pc + 1) (va :: va :: st)) : Z κ nL ws lv pc (va :: st) := by
  obtain ⟨⟨l, D, A, ε⟩, p, e, R, s, m, args, below, meth, c, Q⟩ := κ
  obtain ⟨hx, hb, hml, hown, hts, hfr, hlo, hK, hlk⟩ := X
  exact fun H locs ls hP hS hl => lv_dup hx hb hdg hva (k H locs ls hP hS hl)
theorem z_dup2 {va vb : Value} (X : zC0 κ own cc nL d) (hdg : decode cc pc = .ok (.dup2, 1)) (hva : va.category = 1) (hvb : vb.category = 1) (k : Z κ nL ws lv (pc + 1) (va :: vb :: va :: vb :: st)) : Z κ nL ws lv pc (va :: vb :: st) := by
  obtain ⟨⟨l, D, A, ε⟩, p, e, R, s, m, args, below, meth, c, Q⟩ := κ
  obtain ⟨hx, hb, hml, hown, hts, hfr, hlo, hK, hlk⟩ := X
  exact fun H locs ls hP hS hl => lv_dup2_11 hx hb hdg hva hvb (k H locs ls hP hS hl)
theorem z_idiv {x y : Int32} (X : zC0 κ own cc nL d) (hdg : decode cc pc = .ok (.idiv, 1)) (hne : ¬ y = 0) (k : Z κ nL ws lv (pc + 1) (.int (x / y) :: st)) : Z κ nL ws lv pc (.int y :: .int x :: st) := by
  obtain ⟨⟨l, D, A, ε⟩, p, e, R, s, m, args, below, meth, c, Q⟩ := κ
  obtain ⟨hx, hb, hml, hown, hts, hfr, hlo, hK, hlk⟩ := X
  exact fun H locs ls hP hS hl => lv_idiv hx hb hdg hne (k H locs ls hP hS hl)
theorem z_irem {x y : Int32} (X : zC0 κ own cc nL d) (hdg : decode cc pc = .ok (.irem, 1)) (hne : ¬ y = 0) (k : Z κ nL ws lv (pc + 1) (.int (x - x / y * y) :: st)) : Z κ nL ws lv pc (.int y :: .int x :: st) := by
  obtain ⟨⟨l, D, A, ε⟩, p, e, R, s, m, args, below, meth, c, Q⟩ := κ
  obtain ⟨hx, hb, hml, hown, hts, hfr, hlo, hK, hlk⟩ := X
  exact fun H locs ls hP hS hl => lv_irem hx hb hdg hne (k H locs ls hP hS hl)
theorem z_goto {off : Int} {tgt : Nat} (X : zC0 κ own cc nL d) (hdg : decode cc pc = .ok (.goto off, 3)) (ht : (pc : Int) + off = (tgt : Int)) (k : Z κ nL ws lv tgt st) : Z κ nL ws lv pc st := by
  obtain ⟨⟨l, D, A, ε⟩, p, e, R, s, m, args, below, meth, c, Q⟩ := κ
  obtain ⟨hx, hb, hml, hown, hts, hfr, hlo, hK, hlk⟩ := X
  exact fun H locs ls hP hS hl => lv_goto hx hb hdg ht (k H locs ls hP hS hl)
theorem z_if_eq {x : Int32} {off : Int} {tgt : Nat} {β : Type} {a b ρ : Option β} (X : zC0 κ own cc nL d) (hdg : decode cc pc = .ok (.ifCond .eq off, 3)) (ht : (pc : Int) + off = (tgt : Int)) (h : (if x = 0 then a else b) = ρ) (kt : x = 0 → a = ρ → Z κ nL ws lv tgt st) (kf : ¬ x = 0 → b = ρ → Z κ nL ws lv (pc + 3) st) : Z κ nL ws lv pc (.int x :: st) := by
  obtain ⟨⟨l, D, A, ε⟩, p, e, R, s, m, args, below, meth, c, Q⟩ := κ
  obtain ⟨hx, hb, hml, hown, hts, hfr, hlo, hK, hlk⟩ := X
  exact fun H locs ls hP hS hl => lv_if_eq hx hb hdg ht (fun q => kt q (by rw [if_pos q] at h; exact h) H locs ls hP hS hl) (fun q => kf q (by rw [if_neg q] at h; exact h) H locs ls hP hS hl)
theorem z_if_eq_c {x : Int32} {off : Int} {tgt : Nat} (X : zC0 κ own cc nL d) (hdg : decode cc pc = .ok (.ifCond .eq off, 3)) (ht : (pc : Int) + off = (tgt : Int)) (kt : x = 0 → Z κ nL ws lv tgt st) (kf : ¬ x = 0 → Z κ nL ws lv (pc + 3) st) : Z κ nL ws lv pc (.int x :: st) := by
  obtain ⟨⟨l, D, A, ε⟩, p, e, R, s, m, args, below, meth, c, Q⟩ := κ
  obtain ⟨hx, hb, hml, hown, hts, hfr, hlo, hK, hlk⟩ := X
  exact fun H locs ls hP hS hl => lv_if_eq hx hb hdg ht (fun q => kt q H locs ls hP hS hl) (fun q => kf q H locs ls hP hS hl)
theorem z_if_ne {x : Int32} {off : Int} {tgt : Nat} {β : Type} {a b ρ : Option β} (X : zC0 κ own cc nL d) (hdg : decode cc pc = .ok (.ifCond .ne off, 3)) (ht : (pc : Int) + off = (tgt : Int)) (h : (if x = 0 then a else b) = ρ) (kt : ¬ x = 0 → b = ρ → Z κ nL ws lv tgt st) (kf : x = 0 → a = ρ → Z κ nL ws lv (pc + 3) st) : Z κ nL ws lv pc (.int x :: st) := by
  obtain ⟨⟨l, D, A, ε⟩, p, e, R, s, m, args, below, meth, c, Q⟩ := κ
  obtain ⟨hx, hb, hml, hown, hts, hfr, hlo, hK, hlk⟩ := X
  exact fun H locs ls hP hS hl => lv_if_ne hx hb hdg ht (fun q => kt q (by rw [if_neg q] at h; exact h) H locs ls hP hS hl) (fun q => kf q (by rw [if_pos q] at h; exact h) H locs ls hP hS hl)
theorem z_if_ne_c {x : Int32} {off : Int} {tgt : Nat} (X : zC0 κ own cc nL d) (hdg : decode cc pc = .ok (.ifCond .ne off, 3)) (ht : (pc : Int) + off = (tgt : Int)) (kt : ¬ x = 0 → Z κ nL ws lv tgt st) (kf : x = 0 → Z κ nL ws lv (pc + 3) st) : Z κ nL ws lv pc (.int x :: st) := by
  obtain ⟨⟨l, D, A, ε⟩, p, e, R, s, m, args, below, meth, c, Q⟩ := κ
  obtain ⟨hx, hb, hml, hown, hts, hfr, hlo, hK, hlk⟩ := X
  exact fun H locs ls hP hS hl => lv_if_ne hx hb hdg ht (fun q => kt q H locs ls hP hS hl) (fun q => kf q H locs ls hP hS hl)
theorem z_if_lt {x : Int32} {off : Int} {tgt : Nat} {β : Type} {a b ρ : Option β} (X : zC0 κ own cc nL d) (hdg : decode cc pc = .ok (.ifCond .lt off, 3)) (ht : (pc : Int) + off = (tgt : Int)) (h : (if x < 0 then a else b) = ρ) (kt : x < 0 → a = ρ → Z κ nL ws lv tgt st) (kf : ¬ x < 0 → b = ρ → Z κ nL ws lv (pc + 3) st) : Z κ nL ws lv pc (.int x :: st) := by
  obtain ⟨⟨l, D, A, ε⟩, p, e, R, s, m, args, below, meth, c, Q⟩ := κ
  obtain ⟨hx, hb, hml, hown, hts, hfr, hlo, hK, hlk⟩ := X
  exact fun H locs ls hP hS hl => lv_if_lt hx hb hdg ht (fun q => kt q (by rw [if_pos q] at h; exact h) H locs ls hP hS hl) (fun q => kf q (by rw [if_neg q] at h; exact h) H locs ls hP hS hl)
theorem z_if_lt_c {x : Int32} {off : Int} {tgt : Nat} (X : zC0 κ own cc nL d) (hdg : decode cc pc = .ok (.ifCond .lt off, 3)) (ht : (pc : Int) + off = (tgt : Int)) (kt : x < 0 → Z κ nL ws lv tgt st) (kf : ¬ x < 0 → Z κ nL ws lv (pc + 3) st) : Z κ nL ws lv pc (.int x :: st) := by
  obtain ⟨⟨l, D, A, ε⟩, p, e, R, s, m, args, below, meth, c, Q⟩ := κ
  obtain ⟨hx, hb, hml, hown, hts, hfr, hlo, hK, hlk⟩ := X
  exact fun H locs ls hP hS hl => lv_if_lt hx hb hdg ht (fun q => kt q H locs ls hP hS hl) (fun q => kf q H locs ls hP hS hl)
theorem z_if_ge {x : Int32} {off : Int} {tgt : Nat} {β : Type} {a b ρ : Option β} (X : zC0 κ own cc nL d) (hdg : decode cc pc = .ok (.ifCond .ge off, 3)) (ht : (pc : Int) + off = (tgt : Int)) (h : (if 0 ≤ x then a else b) = ρ) (kt : 0 ≤ x → a = ρ → Z κ nL ws lv tgt st) (kf : ¬ 0 ≤ x → b = ρ → Z κ nL ws lv (pc + 3) st) : Z κ nL ws lv pc (.int x :: st) := by
  obtain ⟨⟨l, D, A, ε⟩, p, e, R, s, m, args, below, meth, c, Q⟩ := κ
  obtain ⟨hx, hb, hml, hown, hts, hfr, hlo, hK, hlk⟩ := X
  exact fun H locs ls hP hS hl => lv_if_ge hx hb hdg ht (fun q => kt q (by rw [if_pos q] at h; exact h) H locs ls hP hS hl) (fun q => kf q (by rw [if_neg q] at h; exact h) H locs ls hP hS hl)
theorem z_if_ge_c {x : Int32} {off : Int} {tgt : Nat} (X : zC0 κ own cc nL d) (hdg : decode cc pc = .ok (.ifCond .ge off, 3)) (ht : (pc : Int) + off = (tgt : Int)) (kt : 0 ≤ x → Z κ nL ws lv tgt st) (kf : ¬ 0 ≤ x → Z κ nL ws lv (pc + 3) st) : Z κ nL ws lv pc (.int x :: st) := by
  obtain ⟨⟨l, D, A, ε⟩, p, e, R, s, m, args, below, meth, c, Q⟩ := κ
  obtain ⟨hx, hb, hml, hown, hts, hfr, hlo, hK, hlk⟩ := X
  exact fun H locs ls hP hS hl => lv_if_ge hx hb hdg ht (fun q => kt q H locs ls hP hS hl) (fun q => kf q H locs ls hP hS hl)
theorem z_if_gt {x : Int32} {off : Int} {tgt : Nat} {β : Type} {a b ρ : Option β} (X : zC0 κ own cc nL d) (hdg : decode cc pc = .ok (.ifCond .gt off, 3)) (ht : (pc : Int) + off = (tgt : Int)) (h : (if 0 < x then a else b) = ρ) (kt : 0 < x → a = ρ → Z κ nL ws lv tgt st) (kf : ¬ 0 < x → b = ρ → Z κ nL ws lv (pc + 3) st) : Z κ nL ws lv pc (.int x :: st) := by
  obtain ⟨⟨l, D, A, ε⟩, p, e, R, s, m, args, below, meth, c, Q⟩ := κ
  obtain ⟨hx, hb, hml, hown, hts, hfr, hlo, hK, hlk⟩ := X
  exact fun H locs ls hP hS hl => lv_if_gt hx hb hdg ht (fun q => kt q (by rw [if_pos q] at h; exact h) H locs ls hP hS hl) (fun q => kf q (by rw [if_neg q] at h; exact h) H locs ls hP hS hl)
theorem z_if_gt_c {x : Int32} {off : Int} {tgt : Nat} (X : zC0 κ own cc nL d) (hdg : decode cc pc = .ok (.ifCond .gt off, 3)) (ht : (pc : Int) + off = (tgt : Int)) (kt : 0 < x → Z κ nL ws lv tgt st) (kf : ¬ 0 < x → Z κ nL ws lv (pc + 3) st) : Z κ nL ws lv pc (.int x :: st) := by
  obtain ⟨⟨l, D, A, ε⟩, p, e, R, s, m, args, below, meth, c, Q⟩ := κ
  obtain ⟨hx, hb, hml, hown, hts, hfr, hlo, hK, hlk⟩ := X
  exact fun H locs ls hP hS hl => lv_if_gt hx hb hdg ht (fun q => kt q H locs ls hP hS hl) (fun q => kf q H locs ls hP hS hl)
theorem z_if_le {x : Int32} {off : Int} {tgt : Nat} {β : Type} {a b ρ : Option β} (X : zC0 κ own cc nL d) (hdg : decode cc pc = .ok (.ifCond .le off, 3)) (ht : (pc : Int) + off = (tgt : Int)) (h : (if x ≤ 0 then a else b) = ρ) (kt : x ≤ 0 → a = ρ → Z κ nL ws lv tgt st) (kf : ¬ x ≤ 0 → b = ρ → Z κ nL ws lv (pc + 3) st) : Z κ nL ws lv pc (.int x :: st) := by
  obtain ⟨⟨l, D, A, ε⟩, p, e, R, s, m, args, below, meth, c, Q⟩ := κ
  obtain ⟨hx, hb, hml, hown, hts, hfr, hlo, hK, hlk⟩ := X
  exact fun H locs ls hP hS hl => lv_if_le hx hb hdg ht (fun q => kt q (by rw [if_pos q] at h; exact h) H locs ls hP hS hl) (fun q => kf q (by rw [if_neg q] at h; exact h) H locs ls hP hS hl)
theorem z_if_le_c {x : Int32} {off : Int} {tgt : Nat} (X : zC0 κ own cc nL d) (hdg : decode cc pc = .ok (.ifCond .le off, 3)) (ht : (pc : Int) + off = (tgt : Int)) (kt : x ≤ 0 → Z κ nL ws lv tgt st) (kf : ¬ x ≤ 0 → Z κ nL ws lv (pc + 3) st) : Z κ nL ws lv pc (.int x :: st) := by
  obtain ⟨⟨l, D, A, ε⟩, p, e, R, s, m, args, below, meth, c, Q⟩ := κ
  obtain ⟨hx, hb, hml, hown, hts, hfr, hlo, hK, hlk⟩ := X
  exact fun H locs ls hP hS hl => lv_if_le hx hb hdg ht (fun q => kt q H locs ls hP hS hl) (fun q => kf q H locs ls hP hS hl)
theorem z_icmp_eq {x y : Int32} {off : Int} {tgt : Nat} {β : Type} {a b ρ : Option β} (X : zC0 κ own cc nL d) (hdg : decode cc pc = .ok (.if_icmp .eq off, 3)) (ht : (pc : Int) + off = (tgt : Int)) (h : (if x = y then a else b) = ρ) (kt : x = y → a = ρ → Z κ nL ws lv tgt st) (kf : ¬ x = y → b = ρ → Z κ nL ws lv (pc + 3) st) : Z κ nL ws lv pc (.int y :: .int x :: st) := by
  obtain ⟨⟨l, D, A, ε⟩, p, e, R, s, m, args, below, meth, c, Q⟩ := κ
  obtain ⟨hx, hb, hml, hown, hts, hfr, hlo, hK, hlk⟩ := X
  exact fun H locs ls hP hS hl => lv_icmp_eq hx hb hdg ht (fun q => kt q (by rw [if_pos q] at h; exact h) H locs ls hP hS hl) (fun q => kf q (by rw [if_neg q] at h; exact h) H locs ls hP hS hl)
theorem z_icmp_eq_c {x y : Int32} {off : Int} {tgt : Nat} (X : zC0 κ own cc nL d) (hdg : decode cc pc = .ok (.if_icmp .eq off, 3)) (ht : (pc : Int) + off = (tgt : Int)) (kt : x = y → Z κ nL ws lv tgt st) (kf : ¬ x = y → Z κ nL ws lv (pc + 3) st) : Z κ nL ws lv pc (.int y :: .int x :: st) := by
  obtain ⟨⟨l, D, A, ε⟩, p, e, R, s, m, args, below, meth, c, Q⟩ := κ
  obtain ⟨hx, hb, hml, hown, hts, hfr, hlo, hK, hlk⟩ := X
  exact fun H locs ls hP hS hl => lv_icmp_eq hx hb hdg ht (fun q => kt q H locs ls hP hS hl) (fun q => kf q H locs ls hP hS hl)
theorem z_icmp_ne {x y : Int32} {off : Int} {tgt : Nat} {β : Type} {a b ρ : Option β} (X : zC0 κ own cc nL d) (hdg : decode cc pc = .ok (.if_icmp .ne off, 3)) (ht : (pc : Int) + off = (tgt : Int)) (h : (if x = y then a else b) = ρ) (kt : ¬ x = y → b = ρ → Z κ nL ws lv tgt st) (kf : x = y → a = ρ → Z κ nL ws lv (pc + 3) st) : Z κ nL ws lv pc (.int y :: .int x :: st) := by
  obtain ⟨⟨l, D, A, ε⟩, p, e, R, s, m, args, below, meth, c, Q⟩ := κ
  obtain ⟨hx, hb, hml, hown, hts, hfr, hlo, hK, hlk⟩ := X
  exact fun H locs ls hP hS hl => lv_icmp_ne hx hb hdg ht (fun q => kt q (by rw [if_neg q] at h; exact h) H locs ls hP hS hl) (fun q => kf q (by rw [if_pos q] at h; exact h) H locs ls hP hS hl)
theorem z_icmp_ne_c {x y : Int32} {off : Int} {tgt : Nat} (X : zC0 κ own cc nL d) (hdg : decode cc pc = .ok (.if_icmp .ne off, 3)) (ht : (pc : Int) + off = (tgt : Int)) (kt : ¬ x = y → Z κ nL ws lv tgt st) (kf : x = y → Z κ nL ws lv (pc + 3) st) : Z κ nL ws lv pc (.int y :: .int x :: st) := by
  obtain ⟨⟨l, D, A, ε⟩, p, e, R, s, m, args, below, meth, c, Q⟩ := κ
  obtain ⟨hx, hb, hml, hown, hts, hfr, hlo, hK, hlk⟩ := X
  exact fun H locs ls hP hS hl => lv_icmp_ne hx hb hdg ht (fun q => kt q H locs ls hP hS hl) (fun q => kf q H locs ls hP hS hl)
theorem z_icmp_lt {x y : Int32} {off : Int} {tgt : Nat} {β : Type} {a b ρ : Option β} (X : zC0 κ own cc nL d) (hdg : decode cc pc = .ok (.if_icmp .lt off, 3)) (ht : (pc : Int) + off = (tgt : Int)) (h : (if x < y then a else b) = ρ) (kt : x < y → a = ρ → Z κ nL ws lv tgt st) (kf : ¬ x < y → b = ρ → Z κ nL ws lv (pc + 3) st) : Z κ nL ws lv pc (.int y :: .int x :: st) := by
  obtain ⟨⟨l, D, A, ε⟩, p, e, R, s, m, args, below, meth, c, Q⟩ := κ
  obtain ⟨hx, hb, hml, hown, hts, hfr, hlo, hK, hlk⟩ := X
  exact fun H locs ls hP hS hl => lv_icmp_lt hx hb hdg ht (fun q => kt q (by rw [if_pos q] at h; exact h) H locs ls hP hS hl) (fun q => kf q (by rw [if_neg q] at h; exact h) H locs ls hP hS hl)
theorem z_icmp_lt_c {x y : Int32} {off : Int} {tgt : Nat} (X : zC0 κ own cc nL d) (hdg : decode cc pc = .ok (.if_icmp .lt off, 3)) (ht : (pc : Int) + off = (tgt : Int)) (kt : x < y → Z κ nL ws lv tgt st) (kf : ¬ x < y → Z κ nL ws lv (pc + 3) st) : Z κ nL ws lv pc (.int y :: .int x :: st) := by
  obtain ⟨⟨l, D, A, ε⟩, p, e, R, s, m, args, below, meth, c, Q⟩ := κ
  obtain ⟨hx, hb, hml, hown, hts, hfr, hlo, hK, hlk⟩ := X
  exact fun H locs ls hP hS hl => lv_icmp_lt hx hb hdg ht (fun q => kt q H locs ls hP hS hl) (fun q => kf q H locs ls hP hS hl)
theorem z_icmp_ge {x y : Int32} {off : Int} {tgt : Nat} {β : Type} {a b ρ : Option β} (X : zC0 κ own cc nL d) (hdg : decode cc pc = .ok (.if_icmp .ge off, 3)) (ht : (pc : Int) + off = (tgt : Int)) (h : (if y ≤ x then a else b) = ρ) (kt : y ≤ x → a = ρ → Z κ nL ws lv tgt st) (kf : ¬ y ≤ x → b = ρ → Z κ nL ws lv (pc + 3) st) : Z κ nL ws lv pc (.int y :: .int x :: st) := by
  obtain ⟨⟨l, D, A, ε⟩, p, e, R, s, m, args, below, meth, c, Q⟩ := κ
  obtain ⟨hx, hb, hml, hown, hts, hfr, hlo, hK, hlk⟩ := X
  exact fun H locs ls hP hS hl => lv_icmp_ge hx hb hdg ht (fun q => kt q (by rw [if_pos q] at h; exact h) H locs ls hP hS hl) (fun q => kf q (by rw [if_neg q] at h; exact h) H locs ls hP hS hl)
theorem z_icmp_ge_c {x y : Int32} {off : Int} {tgt : Nat} (X : zC0 κ own cc nL d) (hdg : decode cc pc = .ok (.if_icmp .ge off, 3)) (ht : (pc : Int) + off = (tgt : Int)) (kt : y ≤ x → Z κ nL ws lv tgt st) (kf : ¬ y ≤ x → Z κ nL ws lv (pc + 3) st) : Z κ nL ws lv pc (.int y :: .int x :: st) := by
  obtain ⟨⟨l, D, A, ε⟩, p, e, R, s, m, args, below, meth, c, Q⟩ := κ
  obtain ⟨hx, hb, hml, hown, hts, hfr, hlo, hK, hlk⟩ := X
  exact fun H locs ls hP hS hl => lv_icmp_ge hx hb hdg ht (fun q => kt q H locs ls hP hS hl) (fun q => kf q H locs ls hP hS hl)
theorem z_icmp_gt {x y : Int32} {off : Int} {tgt : Nat} {β : Type} {a b ρ : Option β} (X : zC0 κ own cc nL d) (hdg : decode cc pc = .ok (.if_icmp .gt off, 3)) (ht : (pc : Int) + off = (tgt : Int)) (h : (if y < x then a else b) = ρ) (kt : y < x → a = ρ → Z κ nL ws lv tgt st) (kf : ¬ y < x → b = ρ → Z κ nL ws lv (pc + 3) st) : Z κ nL ws lv pc (.int y :: .int x :: st) := by
  obtain ⟨⟨l, D, A, ε⟩, p, e, R, s, m, args, below, meth, c, Q⟩ := κ
  obtain ⟨hx, hb, hml, hown, hts, hfr, hlo, hK, hlk⟩ := X
  exact fun H locs ls hP hS hl => lv_icmp_gt hx hb hdg ht (fun q => kt q (by rw [if_pos q] at h; exact h) H locs ls hP hS hl) (fun q => kf q (by rw [if_neg q] at h; exact h) H locs ls hP hS hl)
theorem z_icmp_gt_c {x y : Int32} {off : Int} {tgt : Nat} (X : zC0 κ own cc nL d) (hdg : decode cc pc = .ok (.if_icmp .gt off, 3)) (ht : (pc : Int) + off = (tgt : Int)) (kt : y < x → Z κ nL ws lv tgt st) (kf : ¬ y < x → Z κ nL ws lv (pc + 3) st) : Z κ nL ws lv pc (.int y :: .int x :: st) := by
  obtain ⟨⟨l, D, A, ε⟩, p, e, R, s, m, args, below, meth, c, Q⟩ := κ
  obtain ⟨hx, hb, hml, hown, hts, hfr, hlo, hK, hlk⟩ := X
  exact fun H locs ls hP hS hl => lv_icmp_gt hx hb hdg ht (fun q => kt q H locs ls hP hS hl) (fun q => kf q H locs ls hP hS hl)
theorem z_icmp_le {x y : Int32} {off : Int} {tgt : Nat} {β : Type} {a b ρ : Option β} (X : zC0 κ own cc nL d) (hdg : decode cc pc = .ok (.if_icmp .le off, 3)) (ht : (pc : Int) + off = (tgt : Int)) (h : (if x ≤ y then a else b) = ρ) (kt : x ≤ y → a = ρ → Z κ nL ws lv tgt st) (kf : ¬ x ≤ y → b = ρ → Z κ nL ws lv (pc + 3) st) : Z κ nL ws lv pc (.int y :: .int x :: st) := by
  obtain ⟨⟨l, D, A, ε⟩, p, e, R, s, m, args, below, meth, c, Q⟩ := κ
  obtain ⟨hx, hb, hml, hown, hts, hfr, hlo, hK, hlk⟩ := X
  exact fun H locs ls hP hS hl => lv_icmp_le hx hb hdg ht (fun q => kt q (by rw [if_pos q] at h; exact h) H locs ls hP hS hl) (fun q => kf q (by rw [if_neg q] at h; exact h) H locs ls hP hS hl)
theorem z_icmp_le_c {x y : Int32} {off : Int} {tgt : Nat} (X : zC0 κ own cc nL d) (hdg : decode cc pc = .ok (.if_icmp .le off, 3)) (ht : (pc : Int) + off = (tgt : Int)) (kt : x ≤ y → Z κ nL ws lv tgt st) (kf : ¬ x ≤ y → Z κ nL ws lv (pc + 3) st) : Z κ nL ws lv pc (.int y :: .int x :: st) := by
  obtain ⟨⟨l, D, A, ε⟩, p, e, R, s, m, args, below, meth, c, Q⟩ := κ
  obtain ⟨hx, hb, hml, hown, hts, hfr, hlo, hK, hlk⟩ := X
  exact fun H locs ls hP hS hl => lv_icmp_le hx hb hdg ht (fun q => kt q H locs ls hP hS hl) (fun q => kf q H locs ls hP hS hl)
theorem z_tabIn {dflt lo hi : Int} {offs : Array Int} {len : Nat} {x v : Int32} {off : Int} {tgt : Nat} (X : zC0 κ own cc nL d) (hdg : decode cc pc = .ok (.tableswitch dflt lo hi offs, len)) (hv : x = v) (h1 : ¬ v.toInt < lo) (h2 : ¬ hi < v.toInt) (ho : offs[(v.toInt - lo).toNat]? = some off) (ht : (pc : Int) + off = (tgt : Int)) (k : Z κ nL ws lv tgt st) : Z κ nL ws lv pc (.int x :: st) := by
  obtain ⟨⟨l, D, A, ε⟩, p, e, R, s, m, args, below, meth, c, Q⟩ := κ
  obtain ⟨hx, hb, hml, hown, hts, hfr, hlo, hK, hlk⟩ := X
  subst hv
  exact fun H locs ls hP hS hl => lv_tableIn hx hb hdg h1 h2 ho ht (k H locs ls hP hS hl)
theorem z_tabOut {dflt lo hi : Int} {offs : Array Int} {len : Nat} {x : Int32} {tgt : Nat} (X : zC0 κ own cc nL d) (hdg : decode cc pc = .ok (.tableswitch dflt lo hi offs, len)) (h1 : x.toInt < lo ∨ hi < x.toInt) (ht : (pc : Int) + dflt = (tgt : Int)) (k : Z κ nL ws lv tgt st) : Z κ nL ws lv pc (.int x :: st) := by
  obtain ⟨⟨l, D, A, ε⟩, p, e, R, s, m, args, below, meth, c, Q⟩ := κ
  obtain ⟨hx, hb, hml, hown, hts, hfr, hlo, hK, hlk⟩ := X
  exact fun H locs ls hP hS hl => lv_tableOut hx hb hdg h1 ht (k H locs ls hP hS hl)
theorem z_get {a ci k q idx : Nat} {fs : List Value} {C : String} {T : u_T} {N : Nat} {v : Value} (X : zC0 κ own cc nL d) (he : ws[q]? = some (a, .inr (ci, fs))) (hc : vwCl[ci]? = some (C, T, N)) (hk : k < N) (hin : ∀ w ∈ u_ws C T N, w ∈ zt) (hw : Cond.fieldLink own idx (T k).1 (T k).2.1 (T k).2.2.1 ∈ zt) (hv : fs[k]? = some v) (hdg : decode cc pc = .ok (.getfield idx, 3)) (kk : Z κ nL ws lv (pc + 3) (v :: st)) : Z κ nL ws lv pc (.ref a :: st) := by
  obtain ⟨⟨l, D, A, ε⟩, p, e, R, s, m, args, below, meth, c, Q⟩ := κ
  obtain ⟨hx, hb, hml, hown, hts, hfr, hlo, hK, hlk⟩ := X
  exact fun H locs ls hP hS hl => va_get (D := D) (ci := ci) (C := C) (T := T) (N := N) hx hb hts hin hown hK hP q he hc k hk (hts _ hw) (fun _ h9 => h9) hv hdg (kk H locs ls hP hS hl)
theorem z_put {a ci k q idx : Nat} {fs : List Value} {C : String} {T : u_T} {N : Nat} {v : Value} {ty : FieldType} {ws' : va_W} (X : zC0 κ own cc nL d) (hD : va_D κ.1.2.2.1 ws) (he : ws[q]? = some (a, .inr (ci, fs))) (hc : vwCl[ci]? = some (C, T, N)) (hk : k < N) (hin : ∀ w ∈ u_ws C T N, w ∈ zt) (ty0 : Nat → FieldType) (hty : ∀ k, k < N → parseFieldDescriptor (T k).2.2.1 = some (ty0 k)) (hnm : ∀ a, a < N → ∀ b, b < N → a ≠ b → (T a).2.1 ≠ (T b).2.1) (hw : Cond.fieldLink own idx (T k).1 (T k).2.1 (T k).2.2.1 ∈ zt) (hfin : (T k).2.2.2 = false) (hd : parseFieldDescriptor (T k).2.2.1 = some ty) (hn : narrow ty v = v) (hfit : fits ty v = true) (hlen : k < fs.length) (hws : ws.set q (a, .inr (ci, fs.set k v)) = ws') (hdg : decode cc pc = .ok (.putfield idx, 3)) (kk : Z κ nL ws' lv (pc + 3) st) : Z κ nL ws lv pc (v :: .ref a :: st) := by
  obtain ⟨⟨l, D, A, ε⟩, p, e, R, s, m, args, below, meth, c, Q⟩ := κ
  obtain ⟨hx, hb, hml, hown, hts, hfr, hlo, hK, hlk⟩ := X
  subst hws
  exact fun H locs ls hP hS hl => va_put (D := D) (ci := ci) (C := C) (T := T) (N := N) hx hb hts hin ty0 hty hnm hown hK hP hD hS q he hc k hk (hts _ hw) (fun _ h9 => h9) hfin hd hn hfit hlen hdg (fun H1 locs1 hP1 _ hS1 => kk H1 locs1 ls hP1 hS1 hl)
theorem z_iald {a q n : Nat} {f : Nat → Int32} {i : Int32} {cA : ClassId} (X : zC0 κ own cc nL d) (he : ws[q]? = some (a, .inl (cA, n, .inl f))) (ht : (zty κ.1.2.2.2)[0]? = some (cA, .int)) (hin : vp_in i n) (hdg : decode cc pc = .ok (.iaload, 1)) (kk : Z κ nL ws lv (pc + 1) (.int (f (ix i)) :: st)) : Z κ nL ws lv pc (.int i :: .ref a :: st) := by
  obtain ⟨⟨l, D, A, ε⟩, p, e, R, s, m, args, below, meth, c, Q⟩ := κ
  obtain ⟨hx, hb, hml, hown, hts, hfr, hlo, hK, hlk⟩ := X
  exact fun H locs ls hP hS hl => va_iald hx hb hK hP q 0 he ht hin hdg (kk H locs ls hP hS hl)
theorem z_iast {a q n : Nat} {f : Nat → Int32} {i x : Int32} {cA : ClassId} {ws' : va_W} (X : zC0 κ own cc nL d) (hD : va_D κ.1.2.2.1 ws) (he : ws[q]? = some (a, .inl (cA, n, .inl f))) (ht : (zty κ.1.2.2.2)[0]? = some (cA, .int)) (hin : vp_in i n) (hws : ws.set q (a, .inl (cA, n, .inl (upd f (ix i) x))) = ws') (hdg : decode cc pc = .ok (.iastore, 1)) (kk : Z κ nL ws' lv (pc + 1) st) : Z κ nL ws lv pc (.int x :: .int i :: .ref a :: st) := by
  obtain ⟨⟨l, D, A, ε⟩, p, e, R, s, m, args, below, meth, c, Q⟩ := κ
  obtain ⟨hx, hb, hml, hown, hts, hfr, hlo, hK, hlk⟩ := X
  subst hws
  exact fun H locs ls hP hS hl => va_iast hx hb hK hP hD hS q 0 he ht hin hdg (fun H1 locs1 hP1 _ hS1 => kk H1 locs1 ls hP1 hS1 hl)
theorem z_bald {a q n : Nat} {f : Nat → Int32} {i : Int32} {cA : ClassId} (X : zC0 κ own cc nL d) (he : ws[q]? = some (a, .inl (cA, n, .inl f))) (ht : (zty κ.1.2.2.2)[1]? = some (cA, .boolean)) (hin : vp_in i n) (hdg : decode cc pc = .ok (.baload, 1)) (kk : Z κ nL ws lv (pc + 1) (.int (f (ix i)) :: st)) : Z κ nL ws lv pc (.int i :: .ref a :: st) := by
  obtain ⟨⟨l, D, A, ε⟩, p, e, R, s, m, args, below, meth, c, Q⟩ := κ
  obtain ⟨hx, hb, hml, hown, hts, hfr, hlo, hK, hlk⟩ := X
  exact fun H locs ls hP hS hl => va_zald hx hb hK hP q 1 he ht hin hdg (kk H locs ls hP hS hl)
theorem z_bast {a q n : Nat} {f : Nat → Int32} {i x : Int32} {cA : ClassId} {ws' : va_W} (X : zC0 κ own cc nL d) (hD : va_D κ.1.2.2.1 ws) (he : ws[q]? = some (a, .inl (cA, n, .inl f))) (ht : (zty κ.1.2.2.2)[1]? = some (cA, .boolean)) (hin : vp_in i n) (hx1 : vp_nar .boolean x = x) (hws : ws.set q (a, .inl (cA, n, .inl (upd f (ix i) x))) = ws') (hdg : decode cc pc = .ok (.bastore, 1)) (kk : Z κ nL ws' lv (pc + 1) st) : Z κ nL ws lv pc (.int x :: .int i :: .ref a :: st) := by
  obtain ⟨⟨l, D, A, ε⟩, p, e, R, s, m, args, below, meth, c, Q⟩ := κ
  obtain ⟨hx, hb, hml, hown, hts, hfr, hlo, hK, hlk⟩ := X
  subst hws
  exact fun H locs ls hP hS hl => va_zast hx hb hK hP hD hS q 1 he ht hin hdg (fun H1 locs1 hP1 _ hS1 => kk H1 locs1 ls (by rw [hx1] at hP1; exact hP1) hS1 hl)
theorem z_aald {a q n : Nat} {f : Nat → Option Nat} {i : Int32} {cA b : Nat} (X : zC0 κ own cc nL d) (he : ws[q]? = some (a, .inl (cA, n, .inr (.inr (.inr (.inr f)))))) (ht : (zty κ.1.2.2.2)[2]? = some (cA, .object "MarkerWalks$Sheet")) (hin : vp_in i n) (hf : f (ix i) = some b) (hdg : decode cc pc = .ok (.aaload, 1)) (kk : Z κ nL ws lv (pc + 1) (.ref b :: st)) : Z κ nL ws lv pc (.int i :: .ref a :: st) := by
  obtain ⟨⟨l, D, A, ε⟩, p, e, R, s, m, args, below, meth, c, Q⟩ := κ
  obtain ⟨hx, hb, hml, hown, hts, hfr, hlo, hK, hlk⟩ := X
  exact fun H locs ls hP hS hl => va_aldq hx hb hK hP q 2 he ht hin hdg (by rw [hf]; exact kk H locs ls hP hS hl)
theorem z_alen {a q : Nat} {x : vp_A} {cA : ClassId} {v : Int32} (X : zC0 κ own cc nL d) (he : ws[q]? = some (a, .inl (cA, x))) (ht : (zty κ.1.2.2.2)[0]? = some (cA, .int)) (hv : Int32.ofNat x.1 = v) (hdg : decode cc pc = .ok (.arraylength, 1)) (kk : Z κ nL ws lv (pc + 1) (.int v :: st)) : Z κ nL ws lv pc (.ref a :: st) := by
  obtain ⟨⟨l, D, A, ε⟩, p, e, R, s, m, args, below, meth, c, Q⟩ := κ
  obtain ⟨hx, hb, hml, hown, hts, hfr, hlo, hK, hlk⟩ := X
  exact fun H locs ls hP hS hl => va_alen hx hb hK hP q 0 he ht hv hdg (kk H locs ls hP hS hl)
theorem z_acopy {a a0 q0 q1 n0 n1 idx : Nat} {f g : Nat → Int32} {sp dp n : Int32} {cA : ClassId} {ws' : va_W} (X : zC0 κ own cc nL d) (hd0 : 1 ≤ d) (hD : va_D κ.1.2.2.1 ws) (he0 : ws[q0]? = some (a0, .inl (cA, n0, .inl f))) (he1 : ws[q1]? = some (a, .inl (cA, n1, .inl g))) (ht : (zty κ.1.2.2.2)[0]? = some (cA, .int)) (hq : ¬ sp < 0 ∧ ¬ dp < 0 ∧ ¬ n < 0 ∧ ix sp + ix n ≤ n0 ∧ ix dp + ix n ≤ n1) (h1 : Cond.methodLink own idx arraycopyName ∈ zt) (h2 : Cond.native arraycopyName ∈ zt) (h3 : Cond.static arraycopyName ∈ zt) (h4 : Cond.initialized "java/lang/System" ∈ zt) (hst : (st.map fun v => v.category).sum ≤ 8) (hws : ws.set q1 (a, .inl (cA, n1, .inl (va_cpy f g (ix sp) (ix dp) (ix n)))) = ws') (hdg : decode cc pc = .ok (.invokestatic idx, 3)) (kk : Z κ nL ws' lv (pc + 3) st) : Z κ nL ws lv pc (.int n :: .int dp :: .ref a :: .int sp :: .ref a0 :: st) := by
  obtain ⟨⟨l, D, A, ε⟩, p, e, R, s, m, args, below, meth, c, Q⟩ := κ
  obtain ⟨hx, hb, hml, hown, hts, hfr, hlo, hK, hlk⟩ := X
  subst hws
  have hN : nativeFrameWords "java/lang/System" "arraycopy" 5 + 11 ≤ 32 := by decide +kernel
  exact fun H locs ls hP hS hl => va_copyi (ty := .int) hx hb (hml.trans hl.1.symm) hown (hts _ h1) (hts _ h2) (hts _ h3) (hts _ h4) hK hP hD hS q0 q1 0 0 he0 he1 ht ht rfl hq.1 hq.2.1 hq.2.2.1 hq.2.2.2.1 hq.2.2.2.2 (fun i _ => rfl) (by omega) (by omega) hdg (fun H1 locs1 hP1 _ hS1 => kk H1 locs1 ls hP1 hS1 hl)
theorem z_mmax {idx : Nat} {x y : Int32} (X : zC0 κ own cc nL d) (hd0 : 1 ≤ d) (h1 : Cond.methodLink own idx Lib.Math.max.name ∈ zt) (h2 : Cond.static Lib.Math.max.name ∈ zt) (h3 : Cond.initialized "java/lang/Math" ∈ zt) (h4 : Cond.code Lib.Math.max.name Lib.Math.max.code 2 (some .int) ∈ zt) (hst : (st.map fun v => v.category).sum ≤ 8) (hdg : decode cc pc = .ok (.invokestatic idx, 3)) (kk : Z κ nL ws lv (pc + 3) (.int (if x < y then y else x) :: st)) : Z κ nL ws lv pc (.int y :: .int x :: st) := by
  obtain ⟨⟨l, D, A, ε⟩, p, e, R, s, m, args, below, meth, c, Q⟩ := κ
  obtain ⟨hx, hb, hml, hown, hts, hfr, hlo, hK, hlk⟩ := X
  exact fun H locs ls hP hS hl => va_mmax hx hb (hml.trans hl.1.symm) hown (hts _ h1) (hts _ h2) (hts _ h3) (hts _ h4) (by omega) (by omega) (Nat.zero_le _) (Nat.zero_le _) hdg (kk H locs ls hP hS hl)
theorem z_mmin {idx : Nat} {x y : Int32} (X : zC0 κ own cc nL d) (hd0 : 1 ≤ d) (h1 : Cond.methodLink own idx Lib.Math.min.name ∈ zt) (h2 : Cond.static Lib.Math.min.name ∈ zt) (h3 : Cond.initialized "java/lang/Math" ∈ zt) (h4 : Cond.code Lib.Math.min.name Lib.Math.min.code 2 (some .int) ∈ zt) (hst : (st.map fun v => v.category).sum ≤ 8) (hdg : decode cc pc = .ok (.invokestatic idx, 3)) (kk : Z κ nL ws lv (pc + 3) (.int (if y < x then y else x) :: st)) : Z κ nL ws lv pc (.int y :: .int x :: st) := by
  obtain ⟨⟨l, D, A, ε⟩, p, e, R, s, m, args, below, meth, c, Q⟩ := κ
  obtain ⟨hx, hb, hml, hown, hts, hfr, hlo, hK, hlk⟩ := X
  exact fun H locs ls hP hS hl => va_mmin hx hb (hml.trans hl.1.symm) hown (hts _ h1) (hts _ h2) (hts _ h3) (hts _ h4) (by omega) (by omega) (Nat.zero_le _) (Nat.zero_le _) hdg (kk H locs ls hP hS hl)
/-- behind a call, within one world -/
theorem z_call {l : Launch} {D : va_G} {A : Nat → Prop} {ε : zV} {p : Program} {e : Env} {R : Room} {s : State} {m : MethodId} {args : Array Value} {below : List Frame} {meth : Method} {c : Code} {Q : State → Prop} {wd : zV → S3 → va_W} {H : Heap} {locs : List Loc} {pc : Nat} {ls : Array Slot} {st0 rest : List Value} {a : Array Value} {rv : Option Value} {σ' : S3} (hr : va_Run p l e R s m args below meth c H locs 0 0 0 0 (F0 m pc ls st0) rest (zQc (l, D, A, ε) wd rv σ' a) A) (hS : va_S A s.heap H locs)
    (kk : ∀ (H1 : Heap) (locs1 : List Loc), va_P D vwCl (wd ε σ') H1 → va_S A s.heap H1 locs1 → W p l e R s m args below meth c H1 locs1 0 0 Q (F0 m (pc + 3) ls (rv.toList ++ rest))) : W p l e R s m args below meth c H locs 0 0 Q (F0 m pc ls st0) := by
  intro T hT X
  obtain ⟨v, st₀, t, T', L, h0, X', hL, e1, e2, ⟨hv, hP1, hz, hk⟩, st⟩ := hr T hT X
  cases hv
  rw [h0] at hz hk
  obtain ⟨t2, a1, b1⟩ := kk T'.heap (locs ++ L) (by rw [e1]; exact hP1) ⟨Nat.le_trans hS.1 (by rw [e1]; exact hz), fun q h1 h2 => by rw [e1, hk q (Nat.lt_of_lt_of_le h1 hS.1) h2]; exact hS.2.1 q h1 h2, fun q hq => by
      rcases List.mem_append.mp hq with h | h
      · exact hS.2.2 q h
      · exact hL q h⟩ T' rfl X'
  exact ⟨t2, st t2 a1, b1⟩
theorem z_pre {ζ : zW} {wd : zV → S3 → va_W} {av : List Value} {σ : S3} : FrameBlind (va_Pc av (fun U => va_P ζ.2.1 vwCl (wd (ze ζ) σ) U.heap ∧ va_K ζ.2.1 vwCl (zty (ze ζ)) U)) := fun a U g mk q => by
  obtain ⟨q0, qP, qK⟩ := q
  exact ⟨q0, qP, va_K.moved (u := U) (U := U.calling g mk a) (Vm.Alike.refl U.vm) qK⟩
theorem z_callV {wd : zV → S3 → va_W} {σ σ1 : S3} {idx d1 b q ci n nL1 : Nat} {y : MethodName} {cc1 : ByteArray} {ret1 : Option FieldType} {C : String} {T : u_T} {N : Nat} {fs As rest st0 : List Value} {rv : Option Value} (X : zC0 κ own cc nL d) (hd : d1 + 1 ≤ d) (hM : zMet κ.1 wd d1 y cc1 nL1 ret1 (.ref b :: As) σ rv σ1) (he : (wd (ze κ.1) σ)[q]? = some (b, .inr (ci, fs))) (hc : vwCl[ci]? = some (C, T, N)) (h1 : Cond.methodLink own idx y ∈ zt) (h2 : Cond.instanceMethod y ∈ zt) (h3 : Cond.selects C y y ∈ zt) (h4 : Cond.initialized C ∈ zt) (h5 : Cond.code y cc1 nL1 ret1 ∈ zt) (hn1 : nL1 ≤ 21)
    (hd1 : y.cls = C ∧ y.cls ≠ "java/lang/invoke/MethodHandle" ∧ y.cls ≠ "java/lang/invoke/VarHandle" ∧ (parseMethodDescriptor y.desc).map (fun d => d.parameters.length) = some n) (hn : As.length = n) (hst : st0 = As.reverse ++ .ref b :: rest) (hcat : (rest.map fun v => v.category).sum ≤ 8) (hdg : decode cc pc = .ok (.invokevirtual idx, 3)) (kk : Z κ nL (wd (ze κ.1) σ1) lv (pc + 3) (rv.toList ++ rest)) : Z κ nL (wd (ze κ.1) σ) lv pc st0 := by
  obtain ⟨⟨l, D, A, ε⟩, p, e, R, s, m, args, below, meth, c, Q⟩ := κ
  obtain ⟨hx, hb, hml, hown, hts, hfr, hlo, hK, hlk⟩ := X
  intro H locs ls hP hS hl
  exact z_call (va_runV (As := As) (rest := rest) ⟨hx, hb, hml, hown, hts⟩ hM (cwV n hts (zgV h1 h2 h3 h4 h5) rfl rfl rfl hd1 ⟨show d1 + 1 ≤ R.frames by omega, show 8 + (nL1 + 11) + 40 * d1 ≤ R.locals by omega⟩) ⟨z_pre, va_recv hK hP hc he, fun U hU hW => ⟨rfl, by rw [hU]; exact hP, va_K.moved hW.alike hK⟩⟩ rfl hn hl.1 hst (lv_room hcat) hdg ⟨Nat.zero_le _, Nat.zero_le _⟩) hS (fun H1 locs1 hP1 hS1 => kk H1 locs1 ls hP1 hS1 hl)
theorem z_callS {wd : zV → S3 → va_W} {σ σ1 : S3} {idx d1 n nL1 : Nat} {y : MethodName} {cc1 : ByteArray} {ret1 : Option FieldType} {As rest st0 : List Value} {rv : Option Value} (X : zC0 κ own cc nL d) (hd : d1 + 1 ≤ d) (hM : zMet κ.1 wd d1 y cc1 nL1 ret1 As σ rv σ1) (h1 : Cond.methodLink own idx y ∈ zt) (h2 : Cond.static y ∈ zt) (h4 : Cond.initialized y.cls ∈ zt) (h5 : Cond.code y cc1 nL1 ret1 ∈ zt) (hn1 : nL1 ≤ 21)
    (hd1 : y.cls ≠ "java/lang/invoke/MethodHandle" ∧ y.cls ≠ "java/lang/invoke/VarHandle" ∧ (parseMethodDescriptor y.desc).map (fun d => d.parameters.length) = some n) (hn : As.length = n) (hst : st0 = As.reverse ++ rest) (hcat : (rest.map fun v => v.category).sum ≤ 8) (hdg : decode cc pc = .ok (.invokestatic idx, 3)) (kk : Z κ nL (wd (ze κ.1) σ1) lv (pc + 3) (rv.toList ++ rest)) : Z κ nL (wd (ze κ.1) σ) lv pc st0 := by
  obtain ⟨⟨l, D, A, ε⟩, p, e, R, s, m, args, below, meth, c, Q⟩ := κ
  obtain ⟨hx, hb, hml, hown, hts, hfr, hlo, hK, hlk⟩ := X
  intro H locs ls hP hS hl
  exact z_call (va_runS (As := As) (rest := rest) ⟨hx, hb, hml, hown, hts⟩ hM (va_cwS n hts (zgS h1 h2 h4 h5) rfl rfl rfl hd1 ⟨show d1 + 1 ≤ R.frames by omega, show 8 + (nL1 + 11) + 40 * d1 ≤ R.locals by omega⟩) ⟨z_pre, fun U hU hW => ⟨rfl, by rw [hU]; exact hP, va_K.moved hW.alike hK⟩⟩ rfl hn hl.1 hst (lv_room hcat) hdg ⟨Nat.zero_le _, Nat.zero_le _⟩) hS (fun H1 locs1 hP1 hS1 => kk H1 locs1 ls hP1 hS1 hl)
theorem z_iret {wd : zV → S3 → va_W} {σ σ' : S3} {v r : Int32} (X : zC κ wd own cc nL (some .int) d (some (.int r)) σ') (hdg : decode cc pc = .ok (.ireturn, 1)) (h : some (v, σ) = some (r, σ')) : Z κ nL (wd (ze κ.1) σ) lv pc [.int v] := by
  obtain ⟨⟨l, D, A, ε⟩, p, e, R, s, m, args, below, meth, c, Q⟩ := κ
  obtain ⟨⟨hx, hb, hml, hown, hts, hfr, hlo, hK, hlk⟩, -, hr, rfl⟩ := X
  cases h
  exact fun H locs ls hP hS hl => W.iret hx hb hr (fun t ht hW => ⟨rfl, by rw [ht]; exact hP, hS.F ht⟩) hS.2.2 hdg hlk
theorem z_zret {wd : zV → S3 → va_W} {σ σ' : S3} {v r : Int32} (X : zC κ wd own cc nL (some .boolean) d (some (.int r)) σ') (hdg : decode cc pc = .ok (.ireturn, 1)) (hv : v = 0 ∨ v = 1) (h : some (v, σ) = some (r, σ')) : Z κ nL (wd (ze κ.1) σ) lv pc [.int v] := by
  obtain ⟨⟨l, D, A, ε⟩, p, e, R, s, m, args, below, meth, c, Q⟩ := κ
  obtain ⟨⟨hx, hb, hml, hown, hts, hfr, hlo, hK, hlk⟩, -, hr, rfl⟩ := X
  cases h
  exact fun H locs ls hP hS hl => W.zret hx hb hr (by rcases hv with rfl | rfl <;> decide +kernel) (fun t ht hW => ⟨rfl, by rw [ht]; exact hP, hS.F ht⟩) hS.2.2 hdg hlk
theorem z_vret {wd : zV → S3 → va_W} {σ σ' : S3} {r : Int32} (X : zC κ wd own cc nL none d none σ') (hdg : decode cc pc = .ok (.return_, 1)) (h : some ((0 : Int32), σ) = some (r, σ')) : Z κ nL (wd (ze κ.1) σ) lv pc [] := by
  obtain ⟨⟨l, D, A, ε⟩, p, e, R, s, m, args, below, meth, c, Q⟩ := κ
  obtain ⟨⟨hx, hb, hml, hown, hts, hfr, hlo, hK, hlk⟩, -, hr, rfl⟩ := X
  cases h
  exact fun H locs ls hP hS hl => W.vret hx hb hr (fun t ht hW => ⟨rfl, by rw [ht]; exact hP, hS.F ht⟩) hS.2.2 hdg hlk
end ZROWS
theorem zMet_of {ζ : zW} {wd : zV → S3 → va_W} {d : Nat} {y : MethodName} {cc : ByteArray} {nL : Nat} {ret : Option FieldType} {av : List Value} {σ : S3} {rv : Option Value} {σ' : S3} (hy : plainName y.cls = true) (hZ : zDis ζ wd) (hlen : (lg_sl av).length ≤ nL)
    (B : ∀ κ : zT, κ.1 = ζ → zC κ wd y.cls cc nL ret d rv σ' → Z κ nL (wd (ze κ.1) σ) (lv_args 0 av) 0 []) : zMet ζ wd d y cc nL ret av σ rv σ' := by
  obtain ⟨l, D, A, ε⟩ := ζ
  refine Met.ofW (cc := cc) (maxL := nL) (ret := ret) hy rfl ?_
  intro p e s m args below meth c s₁ B1 hml hv
  obtain ⟨rfl, hP, hK⟩ := hv
  have hts : ∀ w ∈ zt, w.before av.toArray s = true := fun w hw => atoms_spec (ws := zws y cc nL ret) B1.pre w (List.mem_cons_of_mem _ hw)
  have X : zC ((l, D, A, ε), p, e, (headSpec (zws y cc nL ret) { frames := d, cells := 0, slots := 0, locals := 40 * d }).room, s, m, av.toArray, below, meth, c, MQ below (zQc (l, D, A, ε) wd rv σ') av.toArray s 0 0 A) wd y.cls cc nL ret d rv σ' :=
    ⟨⟨B1.exec, B1.bytes, hml, findClass_of_methodNamed B1.named, hts, Nat.le_refl _, Nat.le_refl _, hK, B1.notSynchronized⟩, hZ, B1.returns, rfl⟩
  have hl := lv_entry av (n := nL) hlen
  rw [lg_entry_eq]
  exact B _ rfl X s.heap [] _ hP va_S.rf hl
end
