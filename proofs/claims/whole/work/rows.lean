section
-- ===== PART A: goes FIRST, ahead of the names: the tables' words, and 'selects' of the private methods out of them =====
/-- a private method of a class that the tables say can be made, by its rows of tables_1 -/
def lw_okq (q : MethodName × Nat) : Prop := (q.1.cls ≠ "java/lang/invoke/MethodHandle" ∧ q.1.cls ≠ "java/lang/invoke/VarHandle") ∧ Cond.instantiable q.1.cls q.2 ∈ tables_1 ∧ Cond.privateMethod q.1 ∈ tables_1 ∧ Cond.instanceMethod q.1 ∈ tables_1
theorem lw_p0 : lw_okq (⟨"ShardTrails", "isPasture", "(I)Z"⟩, 7) := ⟨⟨by decide +kernel, by decide +kernel⟩, List.mem_of_getElem? (i := 16) (by decide +kernel), List.mem_of_getElem? (i := 412) (by decide +kernel), List.mem_of_getElem? (i := 413) (by decide +kernel)⟩
theorem lw_p1 : lw_okq (⟨"ShardTrails", "isReader", "(I)Z"⟩, 7) := ⟨⟨by decide +kernel, by decide +kernel⟩, List.mem_of_getElem? (i := 16) (by decide +kernel), List.mem_of_getElem? (i := 589) (by decide +kernel), List.mem_of_getElem? (i := 590) (by decide +kernel)⟩
theorem lw_p2 : lw_okq (⟨"ShardTrails", "serve", "(III)I"⟩, 7) := ⟨⟨by decide +kernel, by decide +kernel⟩, List.mem_of_getElem? (i := 16) (by decide +kernel), List.mem_of_getElem? (i := 596) (by decide +kernel), List.mem_of_getElem? (i := 597) (by decide +kernel)⟩
theorem lw_p3 : lw_okq (⟨"ShardTrails$Route", "begin", "(I)V"⟩, 9) := ⟨⟨by decide +kernel, by decide +kernel⟩, List.mem_of_getElem? (i := 255) (by decide +kernel), List.mem_of_getElem? (i := 605) (by decide +kernel), List.mem_of_getElem? (i := 606) (by decide +kernel)⟩
theorem lw_p4 : lw_okq (⟨"ShardTrails$Route", "put", "(I)V"⟩, 9) := ⟨⟨by decide +kernel, by decide +kernel⟩, List.mem_of_getElem? (i := 255) (by decide +kernel), List.mem_of_getElem? (i := 609) (by decide +kernel), List.mem_of_getElem? (i := 610) (by decide +kernel)⟩
theorem lw_p5 : lw_okq (⟨"ShardTrails$Route", "next", "(LShardTrails$State;II)I"⟩, 9) := ⟨⟨by decide +kernel, by decide +kernel⟩, List.mem_of_getElem? (i := 255) (by decide +kernel), List.mem_of_getElem? (i := 613) (by decide +kernel), List.mem_of_getElem? (i := 614) (by decide +kernel)⟩
theorem lw_p6 : lw_okq (⟨"ShardTrails$Route", "nearestNewInn", "(LShardTrails$Land;I)I"⟩, 9) := ⟨⟨by decide +kernel, by decide +kernel⟩, List.mem_of_getElem? (i := 255) (by decide +kernel), List.mem_of_getElem? (i := 618) (by decide +kernel), List.mem_of_getElem? (i := 619) (by decide +kernel)⟩
theorem lw_p7 : lw_okq (⟨"ShardTrails$RequestText", "parseRequest", "(I)Z"⟩, 7) := ⟨⟨by decide +kernel, by decide +kernel⟩, List.mem_of_getElem? (i := 299) (by decide +kernel), List.mem_of_getElem? (i := 663) (by decide +kernel), List.mem_of_getElem? (i := 664) (by decide +kernel)⟩
theorem lw_p8 : lw_okq (⟨"ShardTrails$RequestText", "isDigit", "()Z"⟩, 7) := ⟨⟨by decide +kernel, by decide +kernel⟩, List.mem_of_getElem? (i := 299) (by decide +kernel), List.mem_of_getElem? (i := 667) (by decide +kernel), List.mem_of_getElem? (i := 668) (by decide +kernel)⟩
theorem lw_p9 : lw_okq (⟨"ShardTrails$RequestText", "digit", "()I"⟩, 7) := ⟨⟨by decide +kernel, by decide +kernel⟩, List.mem_of_getElem? (i := 299) (by decide +kernel), List.mem_of_getElem? (i := 671) (by decide +kernel), List.mem_of_getElem? (i := 672) (by decide +kernel)⟩
theorem lw_p10 : lw_okq (⟨"ShardTrails$RequestText", "skip", "(C)Z"⟩, 7) := ⟨⟨by decide +kernel, by decide +kernel⟩, List.mem_of_getElem? (i := 299) (by decide +kernel), List.mem_of_getElem? (i := 675) (by decide +kernel), List.mem_of_getElem? (i := 676) (by decide +kernel)⟩
theorem lw_p11 : lw_okq (⟨"ShardTrails$RequestText", "parseNumber", "(I)I"⟩, 7) := ⟨⟨by decide +kernel, by decide +kernel⟩, List.mem_of_getElem? (i := 299) (by decide +kernel), List.mem_of_getElem? (i := 679) (by decide +kernel), List.mem_of_getElem? (i := 680) (by decide +kernel)⟩
theorem lw_p12 : lw_okq (⟨"ShardTrailsModel", "copy", "(II)V"⟩, 15) := ⟨⟨by decide +kernel, by decide +kernel⟩, List.mem_of_getElem? (i := 779) (by decide +kernel), List.mem_of_getElem? (i := 835) (by decide +kernel), List.mem_of_getElem? (i := 836) (by decide +kernel)⟩
theorem lw_p13 : lw_okq (⟨"ShardTrailsModel", "record", "()V"⟩, 15) := ⟨⟨by decide +kernel, by decide +kernel⟩, List.mem_of_getElem? (i := 779) (by decide +kernel), List.mem_of_getElem? (i := 847) (by decide +kernel), List.mem_of_getElem? (i := 848) (by decide +kernel)⟩
theorem lw_p14 : lw_okq (⟨"ShardTrailsModel", "isPasture", "(I)Z"⟩, 15) := ⟨⟨by decide +kernel, by decide +kernel⟩, List.mem_of_getElem? (i := 779) (by decide +kernel), List.mem_of_getElem? (i := 862) (by decide +kernel), List.mem_of_getElem? (i := 863) (by decide +kernel)⟩
theorem lw_p15 : lw_okq (⟨"ShardTrailsModel", "shardsIn", "(I)I"⟩, 15) := ⟨⟨by decide +kernel, by decide +kernel⟩, List.mem_of_getElem? (i := 779) (by decide +kernel), List.mem_of_getElem? (i := 866) (by decide +kernel), List.mem_of_getElem? (i := 867) (by decide +kernel)⟩
def lw_privs_1 : List (MethodName × Nat) := [(⟨"ShardTrails", "isPasture", "(I)Z"⟩, 7), (⟨"ShardTrails", "isReader", "(I)Z"⟩, 7), (⟨"ShardTrails", "serve", "(III)I"⟩, 7), (⟨"ShardTrails$Route", "begin", "(I)V"⟩, 9), (⟨"ShardTrails$Route", "put", "(I)V"⟩, 9), (⟨"ShardTrails$Route", "next", "(LShardTrails$State;II)I"⟩, 9), (⟨"ShardTrails$Route", "nearestNewInn", "(LShardTrails$Land;I)I"⟩, 9), (⟨"ShardTrails$RequestText", "parseRequest", "(I)Z"⟩, 7), (⟨"ShardTrails$RequestText", "isDigit", "()Z"⟩, 7), (⟨"ShardTrails$RequestText", "digit", "()I"⟩, 7), (⟨"ShardTrails$RequestText", "skip", "(C)Z"⟩, 7), (⟨"ShardTrails$RequestText", "parseNumber", "(I)I"⟩, 7), (⟨"ShardTrailsModel", "copy", "(II)V"⟩, 15), (⟨"ShardTrailsModel", "record", "()V"⟩, 15), (⟨"ShardTrailsModel", "isPasture", "(I)Z"⟩, 15), (⟨"ShardTrailsModel", "shardsIn", "(I)I"⟩, 15)]
theorem lw_r1 : ∀ q ∈ lw_privs_1, lw_okq q := List.forall_mem_cons.mpr ⟨lw_p0, List.forall_mem_cons.mpr ⟨lw_p1, List.forall_mem_cons.mpr ⟨lw_p2, List.forall_mem_cons.mpr ⟨lw_p3, List.forall_mem_cons.mpr ⟨lw_p4, List.forall_mem_cons.mpr ⟨lw_p5, List.forall_mem_cons.mpr ⟨lw_p6, List.forall_mem_cons.mpr ⟨lw_p7, List.forall_mem_cons.mpr ⟨lw_p8, List.forall_mem_cons.mpr ⟨lw_p9, List.forall_mem_cons.mpr ⟨lw_p10, List.forall_mem_cons.mpr ⟨lw_p11, List.forall_mem_cons.mpr ⟨lw_p12, List.forall_mem_cons.mpr ⟨lw_p13, List.forall_mem_cons.mpr ⟨lw_p14, List.forall_mem_cons.mpr ⟨lw_p15, fun _ h => absurd h List.not_mem_nil⟩⟩⟩⟩⟩⟩⟩⟩⟩⟩⟩⟩⟩⟩⟩⟩
theorem lw_p16 : lw_okq (⟨"ShardTrailsModel", "roomOf", "(I)I"⟩, 15) := ⟨⟨by decide +kernel, by decide +kernel⟩, List.mem_of_getElem? (i := 779) (by decide +kernel), List.mem_of_getElem? (i := 870) (by decide +kernel), List.mem_of_getElem? (i := 871) (by decide +kernel)⟩
theorem lw_p17 : lw_okq (⟨"ShardTrailsModel", "hasInn", "(I)Z"⟩, 15) := ⟨⟨by decide +kernel, by decide +kernel⟩, List.mem_of_getElem? (i := 779) (by decide +kernel), List.mem_of_getElem? (i := 878) (by decide +kernel), List.mem_of_getElem? (i := 879) (by decide +kernel)⟩
theorem lw_p18 : lw_okq (⟨"ShardTrailsModel", "inns", "()I"⟩, 15) := ⟨⟨by decide +kernel, by decide +kernel⟩, List.mem_of_getElem? (i := 779) (by decide +kernel), List.mem_of_getElem? (i := 882) (by decide +kernel), List.mem_of_getElem? (i := 883) (by decide +kernel)⟩
theorem lw_p19 : lw_okq (⟨"ShardTrailsModel", "put", "(II)I"⟩, 15) := ⟨⟨by decide +kernel, by decide +kernel⟩, List.mem_of_getElem? (i := 779) (by decide +kernel), List.mem_of_getElem? (i := 902) (by decide +kernel), List.mem_of_getElem? (i := 903) (by decide +kernel)⟩
theorem lw_p20 : lw_okq (⟨"ShardTrailsModel", "go", "(II)V"⟩, 15) := ⟨⟨by decide +kernel, by decide +kernel⟩, List.mem_of_getElem? (i := 779) (by decide +kernel), List.mem_of_getElem? (i := 920) (by decide +kernel), List.mem_of_getElem? (i := 921) (by decide +kernel)⟩
theorem lw_p21 : lw_okq (⟨"ShardTrailsModel", "tracksIn", "(I)I"⟩, 15) := ⟨⟨by decide +kernel, by decide +kernel⟩, List.mem_of_getElem? (i := 779) (by decide +kernel), List.mem_of_getElem? (i := 931) (by decide +kernel), List.mem_of_getElem? (i := 932) (by decide +kernel)⟩
theorem lw_p22 : lw_okq (⟨"ShardTrailsModel", "hasTrack", "(II)Z"⟩, 15) := ⟨⟨by decide +kernel, by decide +kernel⟩, List.mem_of_getElem? (i := 779) (by decide +kernel), List.mem_of_getElem? (i := 935) (by decide +kernel), List.mem_of_getElem? (i := 936) (by decide +kernel)⟩
theorem lw_p23 : lw_okq (⟨"ShardTrailsModel", "cutIn", "(I)I"⟩, 15) := ⟨⟨by decide +kernel, by decide +kernel⟩, List.mem_of_getElem? (i := 779) (by decide +kernel), List.mem_of_getElem? (i := 939) (by decide +kernel), List.mem_of_getElem? (i := 940) (by decide +kernel)⟩
theorem lw_p24 : lw_okq (⟨"ShardTrailsModel", "postAll", "()V"⟩, 15) := ⟨⟨by decide +kernel, by decide +kernel⟩, List.mem_of_getElem? (i := 779) (by decide +kernel), List.mem_of_getElem? (i := 947) (by decide +kernel), List.mem_of_getElem? (i := 948) (by decide +kernel)⟩
theorem lw_p25 : lw_okq (⟨"ShardTrailsModel", "passDay", "()V"⟩, 15) := ⟨⟨by decide +kernel, by decide +kernel⟩, List.mem_of_getElem? (i := 779) (by decide +kernel), List.mem_of_getElem? (i := 955) (by decide +kernel), List.mem_of_getElem? (i := 956) (by decide +kernel)⟩
theorem lw_p26 : lw_okq (⟨"ShardTrailsModel", "roam", "()V"⟩, 15) := ⟨⟨by decide +kernel, by decide +kernel⟩, List.mem_of_getElem? (i := 779) (by decide +kernel), List.mem_of_getElem? (i := 959) (by decide +kernel), List.mem_of_getElem? (i := 960) (by decide +kernel)⟩
theorem lw_p27 : lw_okq (⟨"ShardTrailsModel", "grow", "()V"⟩, 15) := ⟨⟨by decide +kernel, by decide +kernel⟩, List.mem_of_getElem? (i := 779) (by decide +kernel), List.mem_of_getElem? (i := 963) (by decide +kernel), List.mem_of_getElem? (i := 964) (by decide +kernel)⟩
theorem lw_p28 : lw_okq (⟨"ShardTrailsModel", "drive", "()V"⟩, 15) := ⟨⟨by decide +kernel, by decide +kernel⟩, List.mem_of_getElem? (i := 779) (by decide +kernel), List.mem_of_getElem? (i := 967) (by decide +kernel), List.mem_of_getElem? (i := 968) (by decide +kernel)⟩
theorem lw_p29 : lw_okq (⟨"ShardTrailsModel", "orderOf", "(I)I"⟩, 15) := ⟨⟨by decide +kernel, by decide +kernel⟩, List.mem_of_getElem? (i := 779) (by decide +kernel), List.mem_of_getElem? (i := 971) (by decide +kernel), List.mem_of_getElem? (i := 972) (by decide +kernel)⟩
theorem lw_p30 : lw_okq (⟨"ShardTrailsModel", "lookedAt", "(I)I"⟩, 15) := ⟨⟨by decide +kernel, by decide +kernel⟩, List.mem_of_getElem? (i := 779) (by decide +kernel), List.mem_of_getElem? (i := 975) (by decide +kernel), List.mem_of_getElem? (i := 976) (by decide +kernel)⟩
theorem lw_p31 : lw_okq (⟨"ShardTrailsModel", "distanceOf", "(I)I"⟩, 15) := ⟨⟨by decide +kernel, by decide +kernel⟩, List.mem_of_getElem? (i := 779) (by decide +kernel), List.mem_of_getElem? (i := 979) (by decide +kernel), List.mem_of_getElem? (i := 980) (by decide +kernel)⟩
def lw_privs_2 : List (MethodName × Nat) := [(⟨"ShardTrailsModel", "roomOf", "(I)I"⟩, 15), (⟨"ShardTrailsModel", "hasInn", "(I)Z"⟩, 15), (⟨"ShardTrailsModel", "inns", "()I"⟩, 15), (⟨"ShardTrailsModel", "put", "(II)I"⟩, 15), (⟨"ShardTrailsModel", "go", "(II)V"⟩, 15), (⟨"ShardTrailsModel", "tracksIn", "(I)I"⟩, 15), (⟨"ShardTrailsModel", "hasTrack", "(II)Z"⟩, 15), (⟨"ShardTrailsModel", "cutIn", "(I)I"⟩, 15), (⟨"ShardTrailsModel", "postAll", "()V"⟩, 15), (⟨"ShardTrailsModel", "passDay", "()V"⟩, 15), (⟨"ShardTrailsModel", "roam", "()V"⟩, 15), (⟨"ShardTrailsModel", "grow", "()V"⟩, 15), (⟨"ShardTrailsModel", "drive", "()V"⟩, 15), (⟨"ShardTrailsModel", "orderOf", "(I)I"⟩, 15), (⟨"ShardTrailsModel", "lookedAt", "(I)I"⟩, 15), (⟨"ShardTrailsModel", "distanceOf", "(I)I"⟩, 15)]
theorem lw_r2 : ∀ q ∈ lw_privs_2, lw_okq q := List.forall_mem_cons.mpr ⟨lw_p16, List.forall_mem_cons.mpr ⟨lw_p17, List.forall_mem_cons.mpr ⟨lw_p18, List.forall_mem_cons.mpr ⟨lw_p19, List.forall_mem_cons.mpr ⟨lw_p20, List.forall_mem_cons.mpr ⟨lw_p21, List.forall_mem_cons.mpr ⟨lw_p22, List.forall_mem_cons.mpr ⟨lw_p23, List.forall_mem_cons.mpr ⟨lw_p24, List.forall_mem_cons.mpr ⟨lw_p25, List.forall_mem_cons.mpr ⟨lw_p26, List.forall_mem_cons.mpr ⟨lw_p27, List.forall_mem_cons.mpr ⟨lw_p28, List.forall_mem_cons.mpr ⟨lw_p29, List.forall_mem_cons.mpr ⟨lw_p30, List.forall_mem_cons.mpr ⟨lw_p31, fun _ h => absurd h List.not_mem_nil⟩⟩⟩⟩⟩⟩⟩⟩⟩⟩⟩⟩⟩⟩⟩⟩
theorem lw_p32 : lw_okq (⟨"ShardTrailsModel", "latitudeOf", "(I)I"⟩, 15) := ⟨⟨by decide +kernel, by decide +kernel⟩, List.mem_of_getElem? (i := 779) (by decide +kernel), List.mem_of_getElem? (i := 983) (by decide +kernel), List.mem_of_getElem? (i := 984) (by decide +kernel)⟩
theorem lw_p33 : lw_okq (⟨"ShardTrailsModel", "season", "()I"⟩, 15) := ⟨⟨by decide +kernel, by decide +kernel⟩, List.mem_of_getElem? (i := 779) (by decide +kernel), List.mem_of_getElem? (i := 987) (by decide +kernel), List.mem_of_getElem? (i := 988) (by decide +kernel)⟩
theorem lw_p34 : lw_okq (⟨"ShardTrailsModel", "isReader", "(I)Z"⟩, 15) := ⟨⟨by decide +kernel, by decide +kernel⟩, List.mem_of_getElem? (i := 779) (by decide +kernel), List.mem_of_getElem? (i := 999) (by decide +kernel), List.mem_of_getElem? (i := 1000) (by decide +kernel)⟩
theorem lw_p35 : lw_okq (⟨"ShardTrailsModel", "reachFor", "(II)I"⟩, 15) := ⟨⟨by decide +kernel, by decide +kernel⟩, List.mem_of_getElem? (i := 779) (by decide +kernel), List.mem_of_getElem? (i := 1006) (by decide +kernel), List.mem_of_getElem? (i := 1007) (by decide +kernel)⟩
theorem lw_p36 : lw_okq (⟨"ShardTrailsModel", "findWay", "(II)V"⟩, 15) := ⟨⟨by decide +kernel, by decide +kernel⟩, List.mem_of_getElem? (i := 779) (by decide +kernel), List.mem_of_getElem? (i := 1010) (by decide +kernel), List.mem_of_getElem? (i := 1011) (by decide +kernel)⟩
theorem lw_p37 : lw_okq (⟨"ShardTrailsModel", "comeTo", "(I)V"⟩, 15) := ⟨⟨by decide +kernel, by decide +kernel⟩, List.mem_of_getElem? (i := 779) (by decide +kernel), List.mem_of_getElem? (i := 1014) (by decide +kernel), List.mem_of_getElem? (i := 1015) (by decide +kernel)⟩
theorem lw_p38 : lw_okq (⟨"ShardTrailsModel", "stepFrom", "(II)I"⟩, 15) := ⟨⟨by decide +kernel, by decide +kernel⟩, List.mem_of_getElem? (i := 779) (by decide +kernel), List.mem_of_getElem? (i := 1018) (by decide +kernel), List.mem_of_getElem? (i := 1019) (by decide +kernel)⟩
theorem lw_p39 : lw_okq (⟨"ShardTrailsModel", "nextInn", "(I)I"⟩, 15) := ⟨⟨by decide +kernel, by decide +kernel⟩, List.mem_of_getElem? (i := 779) (by decide +kernel), List.mem_of_getElem? (i := 1025) (by decide +kernel), List.mem_of_getElem? (i := 1026) (by decide +kernel)⟩
theorem lw_p40 : lw_okq (⟨"ShardTrailsModel", "faultOf", "()I"⟩, 15) := ⟨⟨by decide +kernel, by decide +kernel⟩, List.mem_of_getElem? (i := 779) (by decide +kernel), List.mem_of_getElem? (i := 1045) (by decide +kernel), List.mem_of_getElem? (i := 1046) (by decide +kernel)⟩
theorem lw_p41 : lw_okq (⟨"ShardTrailsModel", "begin", "(I)V"⟩, 15) := ⟨⟨by decide +kernel, by decide +kernel⟩, List.mem_of_getElem? (i := 779) (by decide +kernel), List.mem_of_getElem? (i := 1049) (by decide +kernel), List.mem_of_getElem? (i := 1050) (by decide +kernel)⟩
theorem lw_p42 : lw_okq (⟨"ShardTrailsModel", "read", "(I)Z"⟩, 15) := ⟨⟨by decide +kernel, by decide +kernel⟩, List.mem_of_getElem? (i := 779) (by decide +kernel), List.mem_of_getElem? (i := 1053) (by decide +kernel), List.mem_of_getElem? (i := 1054) (by decide +kernel)⟩
theorem lw_p43 : lw_okq (⟨"ShardTrailsModel", "areKnown", "()Z"⟩, 15) := ⟨⟨by decide +kernel, by decide +kernel⟩, List.mem_of_getElem? (i := 779) (by decide +kernel), List.mem_of_getElem? (i := 1057) (by decide +kernel), List.mem_of_getElem? (i := 1058) (by decide +kernel)⟩
theorem lw_p44 : lw_okq (⟨"ShardTrailsModel", "numberAt", "(I)I"⟩, 15) := ⟨⟨by decide +kernel, by decide +kernel⟩, List.mem_of_getElem? (i := 779) (by decide +kernel), List.mem_of_getElem? (i := 1061) (by decide +kernel), List.mem_of_getElem? (i := 1062) (by decide +kernel)⟩
theorem lw_p45 : lw_okq (⟨"ShardTrailsModel", "nextBehind", "(I)I"⟩, 15) := ⟨⟨by decide +kernel, by decide +kernel⟩, List.mem_of_getElem? (i := 779) (by decide +kernel), List.mem_of_getElem? (i := 1065) (by decide +kernel), List.mem_of_getElem? (i := 1066) (by decide +kernel)⟩
theorem lw_p46 : lw_okq (⟨"ShardTrailsModel", "heatIn", "(I)I"⟩, 15) := ⟨⟨by decide +kernel, by decide +kernel⟩, List.mem_of_getElem? (i := 779) (by decide +kernel), List.mem_of_getElem? (i := 1073) (by decide +kernel), List.mem_of_getElem? (i := 1074) (by decide +kernel)⟩
theorem lw_p47 : lw_okq (⟨"ShardTrailsModel", "wolvesIn", "(I)I"⟩, 15) := ⟨⟨by decide +kernel, by decide +kernel⟩, List.mem_of_getElem? (i := 779) (by decide +kernel), List.mem_of_getElem? (i := 1077) (by decide +kernel), List.mem_of_getElem? (i := 1078) (by decide +kernel)⟩
def lw_privs_3 : List (MethodName × Nat) := [(⟨"ShardTrailsModel", "latitudeOf", "(I)I"⟩, 15), (⟨"ShardTrailsModel", "season", "()I"⟩, 15), (⟨"ShardTrailsModel", "isReader", "(I)Z"⟩, 15), (⟨"ShardTrailsModel", "reachFor", "(II)I"⟩, 15), (⟨"ShardTrailsModel", "findWay", "(II)V"⟩, 15), (⟨"ShardTrailsModel", "comeTo", "(I)V"⟩, 15), (⟨"ShardTrailsModel", "stepFrom", "(II)I"⟩, 15), (⟨"ShardTrailsModel", "nextInn", "(I)I"⟩, 15), (⟨"ShardTrailsModel", "faultOf", "()I"⟩, 15), (⟨"ShardTrailsModel", "begin", "(I)V"⟩, 15), (⟨"ShardTrailsModel", "read", "(I)Z"⟩, 15), (⟨"ShardTrailsModel", "areKnown", "()Z"⟩, 15), (⟨"ShardTrailsModel", "numberAt", "(I)I"⟩, 15), (⟨"ShardTrailsModel", "nextBehind", "(I)I"⟩, 15), (⟨"ShardTrailsModel", "heatIn", "(I)I"⟩, 15), (⟨"ShardTrailsModel", "wolvesIn", "(I)I"⟩, 15)]
theorem lw_r3 : ∀ q ∈ lw_privs_3, lw_okq q := List.forall_mem_cons.mpr ⟨lw_p32, List.forall_mem_cons.mpr ⟨lw_p33, List.forall_mem_cons.mpr ⟨lw_p34, List.forall_mem_cons.mpr ⟨lw_p35, List.forall_mem_cons.mpr ⟨lw_p36, List.forall_mem_cons.mpr ⟨lw_p37, List.forall_mem_cons.mpr ⟨lw_p38, List.forall_mem_cons.mpr ⟨lw_p39, List.forall_mem_cons.mpr ⟨lw_p40, List.forall_mem_cons.mpr ⟨lw_p41, List.forall_mem_cons.mpr ⟨lw_p42, List.forall_mem_cons.mpr ⟨lw_p43, List.forall_mem_cons.mpr ⟨lw_p44, List.forall_mem_cons.mpr ⟨lw_p45, List.forall_mem_cons.mpr ⟨lw_p46, List.forall_mem_cons.mpr ⟨lw_p47, fun _ h => absurd h List.not_mem_nil⟩⟩⟩⟩⟩⟩⟩⟩⟩⟩⟩⟩⟩⟩⟩⟩
theorem lw_p48 : lw_okq (⟨"ShardTrailsModel", "tracksOf", "(I)I"⟩, 15) := ⟨⟨by decide +kernel, by decide +kernel⟩, List.mem_of_getElem? (i := 779) (by decide +kernel), List.mem_of_getElem? (i := 1089) (by decide +kernel), List.mem_of_getElem? (i := 1090) (by decide +kernel)⟩
theorem lw_p49 : lw_okq (⟨"ShardTrailsModel", "sumOf", "(I)I"⟩, 15) := ⟨⟨by decide +kernel, by decide +kernel⟩, List.mem_of_getElem? (i := 779) (by decide +kernel), List.mem_of_getElem? (i := 1093) (by decide +kernel), List.mem_of_getElem? (i := 1094) (by decide +kernel)⟩
theorem lw_p50 : lw_okq (⟨"ShardTrailsModel", "tracks", "()I"⟩, 15) := ⟨⟨by decide +kernel, by decide +kernel⟩, List.mem_of_getElem? (i := 779) (by decide +kernel), List.mem_of_getElem? (i := 1124) (by decide +kernel), List.mem_of_getElem? (i := 1125) (by decide +kernel)⟩
def lw_privs_4 : List (MethodName × Nat) := [(⟨"ShardTrailsModel", "tracksOf", "(I)I"⟩, 15), (⟨"ShardTrailsModel", "sumOf", "(I)I"⟩, 15), (⟨"ShardTrailsModel", "tracks", "()I"⟩, 15)]
theorem lw_r4 : ∀ q ∈ lw_privs_4, lw_okq q := List.forall_mem_cons.mpr ⟨lw_p48, List.forall_mem_cons.mpr ⟨lw_p49, List.forall_mem_cons.mpr ⟨lw_p50, fun _ h => absurd h List.not_mem_nil⟩⟩⟩
def lw_privs : List (MethodName × Nat) := lw_privs_1 ++ (lw_privs_2 ++ (lw_privs_3 ++ (lw_privs_4)))
def lw_tbl : List Cond := k2_sels lw_privs ++ tables_1
theorem lw_privs_ok : ∀ q ∈ lw_privs, lw_okq q := by
  show ∀ q ∈ lw_privs_1 ++ (lw_privs_2 ++ (lw_privs_3 ++ (lw_privs_4))), lw_okq q
  exact List.forall_mem_append.mpr ⟨lw_r1, List.forall_mem_append.mpr ⟨lw_r2, List.forall_mem_append.mpr ⟨lw_r3, lw_r4⟩⟩⟩
/-! ===== BEGIN words of one list among another's, by their places ===== -/
theorem goodIn_r {big : List Cond} (ws : List Cond) (ps : List Nat) (hp : ws = ps.filterMap (fun i => big[i]?)) (h : ws.all goodWord = true) : GoodIn big ws := by
  intro w hw
  have h1 := List.all_eq_true.mp h w hw
  rw [hp] at hw
  obtain ⟨i, -, hi⟩ := List.mem_filterMap.mp hw
  have hm : w ∈ big := by first | exact List.mem_of_getElem? hi | exact List.getElem?_mem hi
  exact ⟨hm, good_of_word h1⟩
theorem goodIn_app {big a b : List Cond} (ha : GoodIn big a) (hb : GoodIn big b) : GoodIn big (a ++ b) := fun w h => (List.mem_append.mp h).elim (ha w) (hb w)
theorem goodIn_ca {big a b : List Cond} {c : Cond} (ha : GoodIn big (c :: a)) (hb : GoodIn big b) : GoodIn big (c :: (a ++ b)) := fun w h => (List.mem_cons.mp h).elim (fun e => ha w (List.mem_cons.mpr (Or.inl e))) (fun h => (List.mem_append.mp h).elim (fun h => ha w (List.mem_cons.mpr (Or.inr h))) (hb w))
theorem goodIn_sub {big ws : List Cond} (hm : ∀ w ∈ ws, w ∈ big) (h : ws.all goodWord = true) : GoodIn big ws := fun w hw => ⟨hm w hw, good_of_word (List.all_eq_true.mp h w hw)⟩
/-! ===== END ===== -/

/-! ===== BEGIN printed: names, fields, word lists, decode rows ===== -/
def RX0 : String := "ShardTrails$Herd"
def TX0 : u_T := fun k => match k with
  | 0 => ("ShardTrails$Herd", "at", "[I", true)
  | 1 => ("ShardTrails$Herd", "heat", "[I", true)
  | 2 => ("ShardTrails$Herd", "moves", "[I", true)
  | _ => ("ShardTrails$Herd", "values", "[I", true)
def tyX0 : Nat → FieldType := fun k => match k with
  | 0 => .array .int
  | 1 => .array .int
  | 2 => .array .int
  | _ => .array .int
abbrev wsX00 : List Cond := u_ws RX0 TX0 4
theorem nmX0 : ∀ a, a < 4 → ∀ b, b < 4 → a ≠ b → (TX0 a).2.1 ≠ (TX0 b).2.1 := by decide +kernel
theorem tyX0_ok : ∀ k, k < 4 → parseFieldDescriptor (TX0 k).2.2.1 = some (tyX0 k) := by decide +kernel
abbrev cX0_init : ByteArray := prog_2_method_1_code
def yX0_init : MethodName := ⟨RX0, "<init>", "()V"⟩
abbrev cX0_copyFrom : ByteArray := prog_2_method_2_code
def yX0_copyFrom : MethodName := ⟨RX0, "copyFrom", "(LShardTrails$Herd;)V"⟩
abbrev cX0_cool : ByteArray := prog_2_method_3_code
def yX0_cool : MethodName := ⟨RX0, "cool", "()V"⟩
abbrev cX0_warm : ByteArray := prog_2_method_4_code
def yX0_warm : MethodName := ⟨RX0, "warm", "(II)V"⟩
abbrev cX0_isAskedBefore : ByteArray := prog_2_method_5_code
def yX0_isAskedBefore : MethodName := ⟨RX0, "isAskedBefore", "(II)Z"⟩
abbrev cX0_placeByHeat : ByteArray := prog_2_method_6_code
def yX0_placeByHeat : MethodName := ⟨RX0, "placeByHeat", "(I)I"⟩
abbrev cX0_sortByHeat : ByteArray := prog_2_method_7_code
def yX0_sortByHeat : MethodName := ⟨RX0, "sortByHeat", "([I)V"⟩
abbrev cX0_heatIn : ByteArray := prog_2_method_8_code
def yX0_heatIn : MethodName := ⟨RX0, "heatIn", "(I)I"⟩
abbrev cX0_sumOfValues : ByteArray := prog_2_method_9_code
def yX0_sumOfValues : MethodName := ⟨RX0, "sumOfValues", "(I)I"⟩
def RX1 : String := "ShardTrails$History"
def TX1 : u_T := fun k => match k with
  | 0 => ("ShardTrails$History", "number", "I", false)
  | 1 => ("ShardTrails$History", "oldest", "I", false)
  | _ => ("ShardTrails$History", "states", "[LShardTrails$State;", true)
def tyX1 : Nat → FieldType := fun k => match k with
  | 0 => .int
  | 1 => .int
  | _ => .array (.object "ShardTrails$State")
abbrev wsX10 : List Cond := u_ws RX1 TX1 3
theorem nmX1 : ∀ a, a < 3 → ∀ b, b < 3 → a ≠ b → (TX1 a).2.1 ≠ (TX1 b).2.1 := by decide +kernel
theorem tyX1_ok : ∀ k, k < 3 → parseFieldDescriptor (TX1 k).2.2.1 = some (tyX1 k) := by decide +kernel
abbrev cX1_init : ByteArray := prog_3_method_1_code
def yX1_init : MethodName := ⟨RX1, "<init>", "()V"⟩
abbrev cX1_store : ByteArray := prog_3_method_2_code
def yX1_store : MethodName := ⟨RX1, "store", "(LShardTrails$State;)V"⟩
abbrev cX1_takeBack : ByteArray := prog_3_method_3_code
def yX1_takeBack : MethodName := ⟨RX1, "takeBack", "(LShardTrails$State;)V"⟩
def RX2 : String := "ShardTrails$Land"
def TX2 : u_T := fun k => match k with
  | 0 => ("ShardTrails$Land", "number", "I", false)
  | 1 => ("ShardTrails$Land", "latitude", "[I", true)
  | 2 => ("ShardTrails$Land", "room", "[I", true)
  | 3 => ("ShardTrails$Land", "herdSize", "[I", true)
  | 4 => ("ShardTrails$Land", "sentTo", "[I", true)
  | 5 => ("ShardTrails$Land", "inn", "[Z", true)
  | _ => ("ShardTrails$Land", "posted", "[I", true)
def tyX2 : Nat → FieldType := fun k => match k with
  | 0 => .int
  | 1 => .array .int
  | 2 => .array .int
  | 3 => .array .int
  | 4 => .array .int
  | 5 => .array .boolean
  | _ => .array .int
abbrev wsX20 : List Cond := u_ws RX2 TX2 7
theorem nmX2 : ∀ a, a < 7 → ∀ b, b < 7 → a ≠ b → (TX2 a).2.1 ≠ (TX2 b).2.1 := by decide +kernel
theorem tyX2_ok : ∀ k, k < 7 → parseFieldDescriptor (TX2 k).2.2.1 = some (tyX2 k) := by decide +kernel
abbrev cX2_init : ByteArray := prog_4_method_1_code
def yX2_init : MethodName := ⟨RX2, "<init>", "()V"⟩
abbrev cX2_copyFrom : ByteArray := prog_4_method_2_code
def yX2_copyFrom : MethodName := ⟨RX2, "copyFrom", "(LShardTrails$Land;)V"⟩
abbrev cX2_found : ByteArray := prog_4_method_3_code
def yX2_found : MethodName := ⟨RX2, "found", "(IIZ)I"⟩
abbrev cX2_inns : ByteArray := prog_4_method_4_code
def yX2_inns : MethodName := ⟨RX2, "inns", "()I"⟩
abbrev cX2_hasRoom : ByteArray := prog_4_method_5_code
def yX2_hasRoom : MethodName := ⟨RX2, "hasRoom", "(I)Z"⟩
abbrev cX2_distance : ByteArray := prog_4_method_6_code
def yX2_distance : MethodName := ⟨RX2, "distance", "(II)I"⟩
abbrev cX2_forgetPosted : ByteArray := prog_4_method_7_code
def yX2_forgetPosted : MethodName := ⟨RX2, "forgetPosted", "(I)V"⟩
abbrev cX2_tellAll : ByteArray := prog_4_method_8_code
def yX2_tellAll : MethodName := ⟨RX2, "tellAll", "([I)V"⟩
abbrev cX2_bestOther : ByteArray := prog_4_method_9_code
def yX2_bestOther : MethodName := ⟨RX2, "bestOther", "(II)I"⟩
def RX3 : String := "ShardTrails$Pack"
def TX3 : u_T := fun k => match k with
  | 0 => ("ShardTrails$Pack", "number", "I", false)
  | 1 => ("ShardTrails$Pack", "at", "[I", true)
  | _ => ("ShardTrails$Pack", "stride", "[I", true)
def tyX3 : Nat → FieldType := fun k => match k with
  | 0 => .int
  | 1 => .array .int
  | _ => .array .int
abbrev wsX30 : List Cond := u_ws RX3 TX3 3
theorem nmX3 : ∀ a, a < 3 → ∀ b, b < 3 → a ≠ b → (TX3 a).2.1 ≠ (TX3 b).2.1 := by decide +kernel
theorem tyX3_ok : ∀ k, k < 3 → parseFieldDescriptor (TX3 k).2.2.1 = some (tyX3 k) := by decide +kernel
abbrev cX3_init : ByteArray := prog_5_method_1_code
def yX3_init : MethodName := ⟨RX3, "<init>", "()V"⟩
abbrev cX3_copyFrom : ByteArray := prog_5_method_2_code
def yX3_copyFrom : MethodName := ⟨RX3, "copyFrom", "(LShardTrails$Pack;)V"⟩
abbrev cX3_join : ByteArray := prog_5_method_3_code
def yX3_join : MethodName := ⟨RX3, "join", "(II)I"⟩
abbrev cX3_advance : ByteArray := prog_5_method_4_code
def yX3_advance : MethodName := ⟨RX3, "advance", "(II)V"⟩
abbrev cX3_countIn : ByteArray := prog_5_method_5_code
def yX3_countIn : MethodName := ⟨RX3, "countIn", "(I)I"⟩
def RX4 : String := "ShardTrails$Readers"
def TX4 : u_T := fun k => match k with
  | 0 => ("ShardTrails$Readers", "number", "I", false)
  | 1 => ("ShardTrails$Readers", "home", "[I", true)
  | 2 => ("ShardTrails$Readers", "requests", "[I", true)
  | 3 => ("ShardTrails$Readers", "hops", "[I", true)
  | 4 => ("ShardTrails$Readers", "cries", "[I", true)
  | 5 => ("ShardTrails$Readers", "mostHops", "[I", true)
  | _ => ("ShardTrails$Readers", "memory", "[I", true)
def tyX4 : Nat → FieldType := fun k => match k with
  | 0 => .int
  | 1 => .array .int
  | 2 => .array .int
  | 3 => .array .int
  | 4 => .array .int
  | 5 => .array .int
  | _ => .array .int
abbrev wsX40 : List Cond := u_ws RX4 TX4 7
theorem nmX4 : ∀ a, a < 7 → ∀ b, b < 7 → a ≠ b → (TX4 a).2.1 ≠ (TX4 b).2.1 := by decide +kernel
theorem tyX4_ok : ∀ k, k < 7 → parseFieldDescriptor (TX4 k).2.2.1 = some (tyX4 k) := by decide +kernel
abbrev cX4_init : ByteArray := prog_6_method_1_code
def yX4_init : MethodName := ⟨RX4, "<init>", "()V"⟩
abbrev cX4_copyFrom : ByteArray := prog_6_method_2_code
def yX4_copyFrom : MethodName := ⟨RX4, "copyFrom", "(LShardTrails$Readers;)V"⟩
abbrev cX4_join : ByteArray := prog_6_method_3_code
def yX4_join : MethodName := ⟨RX4, "join", "(I)I"⟩
abbrev cX4_note : ByteArray := prog_6_method_4_code
def yX4_note : MethodName := ⟨RX4, "note", "(IIILShardTrails$Route;)V"⟩
def RX5 : String := "ShardTrails$RequestText"
def TX5 : u_T := fun k => match k with
  | 0 => ("ShardTrails$RequestText", "length", "I", false)
  | 1 => ("ShardTrails$RequestText", "number", "I", false)
  | 2 => ("ShardTrails$RequestText", "readers", "[I", true)
  | 3 => ("ShardTrails$RequestText", "keys", "[I", true)
  | 4 => ("ShardTrails$RequestText", "values", "[I", true)
  | 5 => ("ShardTrails$RequestText", "characters", "[C", true)
  | _ => ("ShardTrails$RequestText", "next", "I", false)
def tyX5 : Nat → FieldType := fun k => match k with
  | 0 => .int
  | 1 => .int
  | 2 => .array .int
  | 3 => .array .int
  | 4 => .array .int
  | 5 => .array .char
  | _ => .int
abbrev wsX50 : List Cond := u_ws RX5 TX5 7
theorem nmX5 : ∀ a, a < 7 → ∀ b, b < 7 → a ≠ b → (TX5 a).2.1 ≠ (TX5 b).2.1 := by decide +kernel
theorem tyX5_ok : ∀ k, k < 7 → parseFieldDescriptor (TX5 k).2.2.1 = some (tyX5 k) := by decide +kernel
abbrev cX5_init : ByteArray := prog_7_method_1_code
def yX5_init : MethodName := ⟨RX5, "<init>", "()V"⟩
abbrev cX5_append : ByteArray := prog_7_method_2_code
def yX5_append : MethodName := ⟨RX5, "append", "(C)V"⟩
abbrev cX5_parse : ByteArray := prog_7_method_3_code
def yX5_parse : MethodName := ⟨RX5, "parse", "()I"⟩
abbrev cX5_parseRequest : ByteArray := prog_7_method_4_code
def yX5_parseRequest : MethodName := ⟨RX5, "parseRequest", "(I)Z"⟩
abbrev cX5_parseNumber : ByteArray := prog_7_method_5_code
def yX5_parseNumber : MethodName := ⟨RX5, "parseNumber", "(I)I"⟩
abbrev cX5_skip : ByteArray := prog_7_method_6_code
def yX5_skip : MethodName := ⟨RX5, "skip", "(C)Z"⟩
abbrev cX5_isDigit : ByteArray := prog_7_method_7_code
def yX5_isDigit : MethodName := ⟨RX5, "isDigit", "()Z"⟩
abbrev cX5_digit : ByteArray := prog_7_method_8_code
def yX5_digit : MethodName := ⟨RX5, "digit", "()I"⟩
def RX6 : String := "ShardTrails$Route"
def TX6 : u_T := fun k => match k with
  | 0 => ("ShardTrails$Route", "hops", "I", false)
  | 1 => ("ShardTrails$Route", "followed", "I", false)
  | 2 => ("ShardTrails$Route", "askedInns", "I", false)
  | 3 => ("ShardTrails$Route", "sentInns", "I", false)
  | 4 => ("ShardTrails$Route", "cried", "Z", false)
  | 5 => ("ShardTrails$Route", "length", "I", false)
  | 6 => ("ShardTrails$Route", "places", "[I", true)
  | 7 => ("ShardTrails$Route", "asked", "[Z", true)
  | _ => ("ShardTrails$Route", "sent", "[Z", true)
def tyX6 : Nat → FieldType := fun k => match k with
  | 0 => .int
  | 1 => .int
  | 2 => .int
  | 3 => .int
  | 4 => .boolean
  | 5 => .int
  | 6 => .array .int
  | 7 => .array .boolean
  | _ => .array .boolean
abbrev wsX60 : List Cond := u_ws RX6 TX6 9
theorem nmX6 : ∀ a, a < 9 → ∀ b, b < 9 → a ≠ b → (TX6 a).2.1 ≠ (TX6 b).2.1 := by decide +kernel
theorem tyX6_ok : ∀ k, k < 9 → parseFieldDescriptor (TX6 k).2.2.1 = some (tyX6 k) := by decide +kernel
abbrev cX6_init : ByteArray := prog_8_method_1_code
def yX6_init : MethodName := ⟨RX6, "<init>", "()V"⟩
abbrev cX6_find : ByteArray := prog_8_method_2_code
def yX6_find : MethodName := ⟨RX6, "find", "(LShardTrails$State;II)V"⟩
abbrev cX6_begin : ByteArray := prog_8_method_3_code
def yX6_begin : MethodName := ⟨RX6, "begin", "(I)V"⟩
abbrev cX6_put : ByteArray := prog_8_method_4_code
def yX6_put : MethodName := ⟨RX6, "put", "(I)V"⟩
abbrev cX6_next : ByteArray := prog_8_method_5_code
def yX6_next : MethodName := ⟨RX6, "next", "(LShardTrails$State;II)I"⟩
abbrev cX6_nearestNewInn : ByteArray := prog_8_method_6_code
def yX6_nearestNewInn : MethodName := ⟨RX6, "nearestNewInn", "(LShardTrails$Land;I)I"⟩
def RX7 : String := "ShardTrails$State"
def TX7 : u_T := fun k => match k with
  | 0 => ("ShardTrails$State", "day", "I", false)
  | 1 => ("ShardTrails$State", "cutTracks", "I", false)
  | 2 => ("ShardTrails$State", "overgrownTracks", "I", false)
  | 3 => ("ShardTrails$State", "numbers", "[I", true)
  | 4 => ("ShardTrails$State", "latitudes", "[I", true)
  | 5 => ("ShardTrails$State", "land", "LShardTrails$Land;", true)
  | 6 => ("ShardTrails$State", "tracks", "LShardTrails$Tracks;", true)
  | 7 => ("ShardTrails$State", "herd", "LShardTrails$Herd;", true)
  | 8 => ("ShardTrails$State", "pack", "LShardTrails$Pack;", true)
  | 9 => ("ShardTrails$State", "readers", "LShardTrails$Readers;", true)
  | _ => ("ShardTrails$State", "order", "[I", true)
def tyX7 : Nat → FieldType := fun k => match k with
  | 0 => .int
  | 1 => .int
  | 2 => .int
  | 3 => .array .int
  | 4 => .array .int
  | 5 => .object "ShardTrails$Land"
  | 6 => .object "ShardTrails$Tracks"
  | 7 => .object "ShardTrails$Herd"
  | 8 => .object "ShardTrails$Pack"
  | 9 => .object "ShardTrails$Readers"
  | _ => .array .int
abbrev wsX70 : List Cond := u_ws RX7 TX7 11
theorem nmX7 : ∀ a, a < 11 → ∀ b, b < 11 → a ≠ b → (TX7 a).2.1 ≠ (TX7 b).2.1 := by decide +kernel
theorem tyX7_ok : ∀ k, k < 11 → parseFieldDescriptor (TX7 k).2.2.1 = some (tyX7 k) := by decide +kernel
abbrev cX7_init : ByteArray := prog_9_method_1_code
def yX7_init : MethodName := ⟨RX7, "<init>", "()V"⟩
abbrev cX7_copyFrom : ByteArray := prog_9_method_2_code
def yX7_copyFrom : MethodName := ⟨RX7, "copyFrom", "(LShardTrails$State;)V"⟩
abbrev cX7_season : ByteArray := prog_9_method_3_code
def yX7_season : MethodName := ⟨RX7, "season", "()I"⟩
abbrev cX7_seasonLatitude : ByteArray := prog_9_method_4_code
def yX7_seasonLatitude : MethodName := ⟨RX7, "seasonLatitude", "()I"⟩
abbrev cX7_passDay : ByteArray := prog_9_method_5_code
def yX7_passDay : MethodName := ⟨RX7, "passDay", "()I"⟩
abbrev cX7_passDayOfHerd : ByteArray := prog_9_method_6_code
def yX7_passDayOfHerd : MethodName := ⟨RX7, "passDayOfHerd", "()V"⟩
abbrev cX7_letWolvesGo : ByteArray := prog_9_method_7_code
def yX7_letWolvesGo : MethodName := ⟨RX7, "letWolvesGo", "()V"⟩
abbrev cX7_letWolfCut : ByteArray := prog_9_method_8_code
def yX7_letWolfCut : MethodName := ⟨RX7, "letWolfCut", "(I)I"⟩
abbrev cX7_tracksInReach : ByteArray := prog_9_method_9_code
def yX7_tracksInReach : MethodName := ⟨RX7, "tracksInReach", "(I)I"⟩
abbrev cX7_letTracksGrowOver : ByteArray := prog_9_method_10_code
def yX7_letTracksGrowOver : MethodName := ⟨RX7, "letTracksGrowOver", "()V"⟩
abbrev cX7_driveHerd : ByteArray := prog_9_method_11_code
def yX7_driveHerd : MethodName := ⟨RX7, "driveHerd", "()I"⟩
abbrev cX7_drive : ByteArray := prog_9_method_12_code
def yX7_drive : MethodName := ⟨RX7, "drive", "(II)V"⟩
abbrev cX7_letInnsPostOnTheirDay : ByteArray := prog_9_method_13_code
def yX7_letInnsPostOnTheirDay : MethodName := ⟨RX7, "letInnsPostOnTheirDay", "()V"⟩
abbrev cX7_letInnsPost : ByteArray := prog_9_method_14_code
def yX7_letInnsPost : MethodName := ⟨RX7, "letInnsPost", "()V"⟩
abbrev cX7_noteRequest : ByteArray := prog_9_method_15_code
def yX7_noteRequest : MethodName := ⟨RX7, "noteRequest", "(IILShardTrails$Route;)V"⟩
def RX8 : String := "ShardTrails$Tracks"
def TX8 : u_T := fun k => match k with
  | 0 => ("ShardTrails$Tracks", "leadsTo", "[I", true)
  | _ => ("ShardTrails$Tracks", "leftOn", "[I", true)
def tyX8 : Nat → FieldType := fun k => match k with
  | 0 => .array .int
  | _ => .array .int
abbrev wsX80 : List Cond := u_ws RX8 TX8 2
theorem nmX8 : ∀ a, a < 2 → ∀ b, b < 2 → a ≠ b → (TX8 a).2.1 ≠ (TX8 b).2.1 := by decide +kernel
theorem tyX8_ok : ∀ k, k < 2 → parseFieldDescriptor (TX8 k).2.2.1 = some (tyX8 k) := by decide +kernel
abbrev cX8_init : ByteArray := prog_10_method_1_code
def yX8_init : MethodName := ⟨RX8, "<init>", "()V"⟩
abbrev cX8_copyFrom : ByteArray := prog_10_method_2_code
def yX8_copyFrom : MethodName := ⟨RX8, "copyFrom", "(LShardTrails$Tracks;)V"⟩
abbrev cX8_isAt : ByteArray := prog_10_method_3_code
def yX8_isAt : MethodName := ⟨RX8, "isAt", "(II)Z"⟩
abbrev cX8_leave : ByteArray := prog_10_method_4_code
def yX8_leave : MethodName := ⟨RX8, "leave", "(IIII)V"⟩
abbrev cX8_removeLeftUntil : ByteArray := prog_10_method_5_code
def yX8_removeLeftUntil : MethodName := ⟨RX8, "removeLeftUntil", "(II)I"⟩
abbrev cX8_countIn : ByteArray := prog_10_method_6_code
def yX8_countIn : MethodName := ⟨RX8, "countIn", "(I)I"⟩
abbrev cX8_countOf : ByteArray := prog_10_method_7_code
def yX8_countOf : MethodName := ⟨RX8, "countOf", "(I)I"⟩
abbrev cX8_countAll : ByteArray := prog_10_method_8_code
def yX8_countAll : MethodName := ⟨RX8, "countAll", "()I"⟩
def RX9 : String := "ShardTrails"
def TX9 : u_T := fun k => match k with
  | 0 => ("ShardTrails", "state", "LShardTrails$State;", true)
  | 1 => ("ShardTrails", "trial", "LShardTrails$State;", true)
  | 2 => ("ShardTrails", "snapshot", "LShardTrails$State;", true)
  | 3 => ("ShardTrails", "history", "LShardTrails$History;", true)
  | 4 => ("ShardTrails", "route", "LShardTrails$Route;", true)
  | 5 => ("ShardTrails", "text", "LShardTrails$RequestText;", true)
  | _ => ("ShardTrails", "hasSnapshot", "Z", false)
def tyX9 : Nat → FieldType := fun k => match k with
  | 0 => .object "ShardTrails$State"
  | 1 => .object "ShardTrails$State"
  | 2 => .object "ShardTrails$State"
  | 3 => .object "ShardTrails$History"
  | 4 => .object "ShardTrails$Route"
  | 5 => .object "ShardTrails$RequestText"
  | _ => .boolean
abbrev wsX90 : List Cond := u_ws RX9 TX9 7
theorem nmX9 : ∀ a, a < 7 → ∀ b, b < 7 → a ≠ b → (TX9 a).2.1 ≠ (TX9 b).2.1 := by decide +kernel
theorem tyX9_ok : ∀ k, k < 7 → parseFieldDescriptor (TX9 k).2.2.1 = some (tyX9 k) := by decide +kernel
abbrev cX9_init : ByteArray := prog_1_method_1_code
def yX9_init : MethodName := ⟨RX9, "<init>", "()V"⟩
abbrev cX9_addPasture : ByteArray := prog_1_method_2_code
def yX9_addPasture : MethodName := ⟨RX9, "addPasture", "(IIZ)I"⟩
abbrev cX9_setRoom : ByteArray := prog_1_method_3_code
def yX9_setRoom : MethodName := ⟨RX9, "setRoom", "(II)I"⟩
abbrev cX9_setInn : ByteArray := prog_1_method_4_code
def yX9_setInn : MethodName := ⟨RX9, "setInn", "(IZ)I"⟩
abbrev cX9_addWolf : ByteArray := prog_1_method_5_code
def yX9_addWolf : MethodName := ⟨RX9, "addWolf", "(II)I"⟩
abbrev cX9_driveWolf : ByteArray := prog_1_method_6_code
def yX9_driveWolf : MethodName := ⟨RX9, "driveWolf", "()I"⟩
abbrev cX9_addReader : ByteArray := prog_1_method_7_code
def yX9_addReader : MethodName := ⟨RX9, "addReader", "(I)I"⟩
abbrev cX9_setSeason : ByteArray := prog_1_method_8_code
def yX9_setSeason : MethodName := ⟨RX9, "setSeason", "(II)I"⟩
abbrev cX9_set : ByteArray := prog_1_method_9_code
def yX9_set : MethodName := ⟨RX9, "set", "(II)I"⟩
abbrev cX9_pass : ByteArray := prog_1_method_10_code
def yX9_pass : MethodName := ⟨RX9, "pass", "(I)I"⟩
abbrev cX9_move : ByteArray := prog_1_method_11_code
def yX9_move : MethodName := ⟨RX9, "move", "(II)I"⟩
abbrev cX9_post : ByteArray := prog_1_method_12_code
def yX9_post : MethodName := ⟨RX9, "post", "()I"⟩
abbrev cX9_cut : ByteArray := prog_1_method_13_code
def yX9_cut : MethodName := ⟨RX9, "cut", "(I)I"⟩
abbrev cX9_request : ByteArray := prog_1_method_14_code
def yX9_request : MethodName := ⟨RX9, "request", "(II)I"⟩
abbrev cX9_write : ByteArray := prog_1_method_15_code
def yX9_write : MethodName := ⟨RX9, "write", "(III)I"⟩
abbrev cX9_type : ByteArray := prog_1_method_16_code
def yX9_type : MethodName := ⟨RX9, "type", "(C)I"⟩
abbrev cX9_clearText : ByteArray := prog_1_method_17_code
def yX9_clearText : MethodName := ⟨RX9, "clearText", "()I"⟩
abbrev cX9_readRequests : ByteArray := prog_1_method_18_code
def yX9_readRequests : MethodName := ⟨RX9, "readRequests", "()I"⟩
abbrev cX9_undo : ByteArray := prog_1_method_19_code
def yX9_undo : MethodName := ⟨RX9, "undo", "()I"⟩
abbrev cX9_keep : ByteArray := prog_1_method_20_code
def yX9_keep : MethodName := ⟨RX9, "keep", "()I"⟩
abbrev cX9_restore : ByteArray := prog_1_method_21_code
def yX9_restore : MethodName := ⟨RX9, "restore", "()I"⟩
abbrev cX9_pasture : ByteArray := prog_1_method_22_code
def yX9_pasture : MethodName := ⟨RX9, "pasture", "(II)I"⟩
abbrev cX9_track : ByteArray := prog_1_method_23_code
def yX9_track : MethodName := ⟨RX9, "track", "(III)I"⟩
abbrev cX9_shard : ByteArray := prog_1_method_24_code
def yX9_shard : MethodName := ⟨RX9, "shard", "(II)I"⟩
abbrev cX9_value : ByteArray := prog_1_method_25_code
def yX9_value : MethodName := ⟨RX9, "value", "(I)I"⟩
abbrev cX9_reader : ByteArray := prog_1_method_26_code
def yX9_reader : MethodName := ⟨RX9, "reader", "(II)I"⟩
abbrev cX9_remembered : ByteArray := prog_1_method_27_code
def yX9_remembered : MethodName := ⟨RX9, "remembered", "(II)I"⟩
abbrev cX9_reach : ByteArray := prog_1_method_28_code
def yX9_reach : MethodName := ⟨RX9, "reach", "(III)I"⟩
abbrev cX9_way : ByteArray := prog_1_method_29_code
def yX9_way : MethodName := ⟨RX9, "way", "(III)I"⟩
abbrev cX9_movesIn : ByteArray := prog_1_method_30_code
def yX9_movesIn : MethodName := ⟨RX9, "movesIn", "(I)I"⟩
abbrev cX9_count : ByteArray := prog_1_method_31_code
def yX9_count : MethodName := ⟨RX9, "count", "(I)I"⟩
abbrev cX9_serve : ByteArray := prog_1_method_32_code
def yX9_serve : MethodName := ⟨RX9, "serve", "(III)I"⟩
abbrev cX9_isPasture : ByteArray := prog_1_method_33_code
def yX9_isPasture : MethodName := ⟨RX9, "isPasture", "(I)Z"⟩
abbrev cX9_isReader : ByteArray := prog_1_method_34_code
def yX9_isReader : MethodName := ⟨RX9, "isReader", "(I)Z"⟩
abbrev cX9_isShard : ByteArray := prog_1_method_35_code
def yX9_isShard : MethodName := ⟨RX9, "isShard", "(I)Z"⟩
abbrev cX9_isKey : ByteArray := prog_1_method_36_code
def yX9_isKey : MethodName := ⟨RX9, "isKey", "(I)Z"⟩
abbrev cX9_isWithin : ByteArray := prog_1_method_37_code
def yX9_isWithin : MethodName := ⟨RX9, "isWithin", "(III)Z"⟩
abbrev cX9_cell : ByteArray := prog_1_method_38_code
def yX9_cell : MethodName := ⟨RX9, "cell", "(II)I"⟩
abbrev cX9_sum : ByteArray := prog_1_method_39_code
def yX9_sum : MethodName := ⟨RX9, "sum", "([II)I"⟩
abbrev cX9_copyRow : ByteArray := prog_1_method_40_code
def yX9_copyRow : MethodName := ⟨RX9, "copyRow", "([I[I)V"⟩
def RX10 : String := "ShardTrailsModel"
def TX10 : u_T := fun k => match k with
  | 0 => ("ShardTrailsModel", "row", "[I", true)
  | 1 => ("ShardTrailsModel", "states", "I", false)
  | 2 => ("ShardTrailsModel", "isKept", "Z", false)
  | 3 => ("ShardTrailsModel", "text", "[I", true)
  | 4 => ("ShardTrailsModel", "length", "I", false)
  | 5 => ("ShardTrailsModel", "way", "[I", true)
  | 6 => ("ShardTrailsModel", "wayMany", "I", false)
  | 7 => ("ShardTrailsModel", "hops", "I", false)
  | 8 => ("ShardTrailsModel", "followed", "I", false)
  | 9 => ("ShardTrailsModel", "asked", "I", false)
  | 10 => ("ShardTrailsModel", "sent", "I", false)
  | 11 => ("ShardTrailsModel", "cried", "Z", false)
  | 12 => ("ShardTrailsModel", "part", "I", false)
  | 13 => ("ShardTrailsModel", "digits", "I", false)
  | _ => ("ShardTrailsModel", "isZero", "Z", false)
def tyX10 : Nat → FieldType := fun k => match k with
  | 0 => .array .int
  | 1 => .int
  | 2 => .boolean
  | 3 => .array .int
  | 4 => .int
  | 5 => .array .int
  | 6 => .int
  | 7 => .int
  | 8 => .int
  | 9 => .int
  | 10 => .int
  | 11 => .boolean
  | 12 => .int
  | 13 => .int
  | _ => .boolean
abbrev wsX100 : List Cond := u_ws RX10 TX10 15
theorem nmX10 : ∀ a, a < 15 → ∀ b, b < 15 → a ≠ b → (TX10 a).2.1 ≠ (TX10 b).2.1 := by decide +kernel
theorem tyX10_ok : ∀ k, k < 15 → parseFieldDescriptor (TX10 k).2.2.1 = some (tyX10 k) := by decide +kernel
abbrev cX10_init : ByteArray := prog_12_method_1_code
def yX10_init : MethodName := ⟨RX10, "<init>", "()V"⟩
abbrev cX10_in : ByteArray := prog_12_method_2_code
def yX10_in : MethodName := ⟨RX10, "in", "(III)Z"⟩
abbrev cX10_copy : ByteArray := prog_12_method_3_code
def yX10_copy : MethodName := ⟨RX10, "copy", "(II)V"⟩
abbrev cX10_record : ByteArray := prog_12_method_4_code
def yX10_record : MethodName := ⟨RX10, "record", "()V"⟩
abbrev cX10_undo : ByteArray := prog_12_method_5_code
def yX10_undo : MethodName := ⟨RX10, "undo", "()I"⟩
abbrev cX10_keep : ByteArray := prog_12_method_6_code
def yX10_keep : MethodName := ⟨RX10, "keep", "()I"⟩
abbrev cX10_restore : ByteArray := prog_12_method_7_code
def yX10_restore : MethodName := ⟨RX10, "restore", "()I"⟩
abbrev cX10_isPasture : ByteArray := prog_12_method_8_code
def yX10_isPasture : MethodName := ⟨RX10, "isPasture", "(I)Z"⟩
abbrev cX10_isShard : ByteArray := prog_12_method_9_code
def yX10_isShard : MethodName := ⟨RX10, "isShard", "(I)Z"⟩
abbrev cX10_latitudeOf : ByteArray := prog_12_method_10_code
def yX10_latitudeOf : MethodName := ⟨RX10, "latitudeOf", "(I)I"⟩
abbrev cX10_roomOf : ByteArray := prog_12_method_11_code
def yX10_roomOf : MethodName := ⟨RX10, "roomOf", "(I)I"⟩
abbrev cX10_hasInn : ByteArray := prog_12_method_12_code
def yX10_hasInn : MethodName := ⟨RX10, "hasInn", "(I)Z"⟩
abbrev cX10_shardsIn : ByteArray := prog_12_method_13_code
def yX10_shardsIn : MethodName := ⟨RX10, "shardsIn", "(I)I"⟩
abbrev cX10_inns : ByteArray := prog_12_method_14_code
def yX10_inns : MethodName := ⟨RX10, "inns", "()I"⟩
abbrev cX10_addPasture : ByteArray := prog_12_method_15_code
def yX10_addPasture : MethodName := ⟨RX10, "addPasture", "(IIZ)I"⟩
abbrev cX10_setRoom : ByteArray := prog_12_method_16_code
def yX10_setRoom : MethodName := ⟨RX10, "setRoom", "(II)I"⟩
abbrev cX10_setInn : ByteArray := prog_12_method_17_code
def yX10_setInn : MethodName := ⟨RX10, "setInn", "(IZ)I"⟩
abbrev cX10_addWolf : ByteArray := prog_12_method_18_code
def yX10_addWolf : MethodName := ⟨RX10, "addWolf", "(II)I"⟩
abbrev cX10_driveWolf : ByteArray := prog_12_method_19_code
def yX10_driveWolf : MethodName := ⟨RX10, "driveWolf", "()I"⟩
abbrev cX10_addReader : ByteArray := prog_12_method_20_code
def yX10_addReader : MethodName := ⟨RX10, "addReader", "(I)I"⟩
abbrev cX10_put : ByteArray := prog_12_method_21_code
def yX10_put : MethodName := ⟨RX10, "put", "(II)I"⟩
abbrev cX10_setSeason : ByteArray := prog_12_method_22_code
def yX10_setSeason : MethodName := ⟨RX10, "setSeason", "(II)I"⟩
abbrev cX10_isSetting : ByteArray := prog_12_method_23_code
def yX10_isSetting : MethodName := ⟨RX10, "isSetting", "(II)Z"⟩
abbrev cX10_set : ByteArray := prog_12_method_24_code
def yX10_set : MethodName := ⟨RX10, "set", "(II)I"⟩
abbrev cX10_season : ByteArray := prog_12_method_25_code
def yX10_season : MethodName := ⟨RX10, "season", "()I"⟩
abbrev cX10_distanceOf : ByteArray := prog_12_method_26_code
def yX10_distanceOf : MethodName := ⟨RX10, "distanceOf", "(I)I"⟩
abbrev cX10_at : ByteArray := prog_12_method_27_code
def yX10_at : MethodName := ⟨RX10, "at", "(III)I"⟩
abbrev cX10_hasTrack : ByteArray := prog_12_method_28_code
def yX10_hasTrack : MethodName := ⟨RX10, "hasTrack", "(II)Z"⟩
abbrev cX10_go : ByteArray := prog_12_method_29_code
def yX10_go : MethodName := ⟨RX10, "go", "(II)V"⟩
abbrev cX10_move : ByteArray := prog_12_method_30_code
def yX10_move : MethodName := ⟨RX10, "move", "(II)I"⟩
abbrev cX10_tracksIn : ByteArray := prog_12_method_31_code
def yX10_tracksIn : MethodName := ⟨RX10, "tracksIn", "(I)I"⟩
abbrev cX10_tracksOf : ByteArray := prog_12_method_32_code
def yX10_tracksOf : MethodName := ⟨RX10, "tracksOf", "(I)I"⟩
abbrev cX10_cutIn : ByteArray := prog_12_method_33_code
def yX10_cutIn : MethodName := ⟨RX10, "cutIn", "(I)I"⟩
abbrev cX10_cut : ByteArray := prog_12_method_34_code
def yX10_cut : MethodName := ⟨RX10, "cut", "(I)I"⟩
abbrev cX10_postAll : ByteArray := prog_12_method_35_code
def yX10_postAll : MethodName := ⟨RX10, "postAll", "()V"⟩
abbrev cX10_post : ByteArray := prog_12_method_36_code
def yX10_post : MethodName := ⟨RX10, "post", "()I"⟩
abbrev cX10_roam : ByteArray := prog_12_method_37_code
def yX10_roam : MethodName := ⟨RX10, "roam", "()V"⟩
abbrev cX10_grow : ByteArray := prog_12_method_38_code
def yX10_grow : MethodName := ⟨RX10, "grow", "()V"⟩
abbrev cX10_orderOf : ByteArray := prog_12_method_39_code
def yX10_orderOf : MethodName := ⟨RX10, "orderOf", "(I)I"⟩
abbrev cX10_lookedAt : ByteArray := prog_12_method_40_code
def yX10_lookedAt : MethodName := ⟨RX10, "lookedAt", "(I)I"⟩
abbrev cX10_drive : ByteArray := prog_12_method_41_code
def yX10_drive : MethodName := ⟨RX10, "drive", "()V"⟩
abbrev cX10_passDay : ByteArray := prog_12_method_42_code
def yX10_passDay : MethodName := ⟨RX10, "passDay", "()V"⟩
abbrev cX10_pass : ByteArray := prog_12_method_43_code
def yX10_pass : MethodName := ⟨RX10, "pass", "(I)I"⟩
abbrev cX10_movesIn : ByteArray := prog_12_method_44_code
def yX10_movesIn : MethodName := ⟨RX10, "movesIn", "(I)I"⟩
abbrev cX10_isReader : ByteArray := prog_12_method_45_code
def yX10_isReader : MethodName := ⟨RX10, "isReader", "(I)Z"⟩
abbrev cX10_has : ByteArray := prog_12_method_46_code
def yX10_has : MethodName := ⟨RX10, "has", "(II)Z"⟩
abbrev cX10_bits : ByteArray := prog_12_method_47_code
def yX10_bits : MethodName := ⟨RX10, "bits", "(I)I"⟩
abbrev cX10_comeTo : ByteArray := prog_12_method_48_code
def yX10_comeTo : MethodName := ⟨RX10, "comeTo", "(I)V"⟩
abbrev cX10_nextInn : ByteArray := prog_12_method_49_code
def yX10_nextInn : MethodName := ⟨RX10, "nextInn", "(I)I"⟩
abbrev cX10_stepFrom : ByteArray := prog_12_method_50_code
def yX10_stepFrom : MethodName := ⟨RX10, "stepFrom", "(II)I"⟩
abbrev cX10_findWay : ByteArray := prog_12_method_51_code
def yX10_findWay : MethodName := ⟨RX10, "findWay", "(II)V"⟩
abbrev cX10_isKey : ByteArray := prog_12_method_52_code
def yX10_isKey : MethodName := ⟨RX10, "isKey", "(I)Z"⟩
abbrev cX10_reachFor : ByteArray := prog_12_method_53_code
def yX10_reachFor : MethodName := ⟨RX10, "reachFor", "(II)I"⟩
abbrev cX10_request : ByteArray := prog_12_method_54_code
def yX10_request : MethodName := ⟨RX10, "request", "(II)I"⟩
abbrev cX10_write : ByteArray := prog_12_method_55_code
def yX10_write : MethodName := ⟨RX10, "write", "(III)I"⟩
abbrev cX10_type : ByteArray := prog_12_method_56_code
def yX10_type : MethodName := ⟨RX10, "type", "(C)I"⟩
abbrev cX10_clearText : ByteArray := prog_12_method_57_code
def yX10_clearText : MethodName := ⟨RX10, "clearText", "()I"⟩
abbrev cX10_begin : ByteArray := prog_12_method_58_code
def yX10_begin : MethodName := ⟨RX10, "begin", "(I)V"⟩
abbrev cX10_read : ByteArray := prog_12_method_59_code
def yX10_read : MethodName := ⟨RX10, "read", "(I)Z"⟩
abbrev cX10_faultOf : ByteArray := prog_12_method_60_code
def yX10_faultOf : MethodName := ⟨RX10, "faultOf", "()I"⟩
abbrev cX10_numberAt : ByteArray := prog_12_method_61_code
def yX10_numberAt : MethodName := ⟨RX10, "numberAt", "(I)I"⟩
abbrev cX10_nextBehind : ByteArray := prog_12_method_62_code
def yX10_nextBehind : MethodName := ⟨RX10, "nextBehind", "(I)I"⟩
abbrev cX10_areKnown : ByteArray := prog_12_method_63_code
def yX10_areKnown : MethodName := ⟨RX10, "areKnown", "()Z"⟩
abbrev cX10_readRequests : ByteArray := prog_12_method_64_code
def yX10_readRequests : MethodName := ⟨RX10, "readRequests", "()I"⟩
abbrev cX10_heatIn : ByteArray := prog_12_method_65_code
def yX10_heatIn : MethodName := ⟨RX10, "heatIn", "(I)I"⟩
abbrev cX10_wolvesIn : ByteArray := prog_12_method_66_code
def yX10_wolvesIn : MethodName := ⟨RX10, "wolvesIn", "(I)I"⟩
abbrev cX10_pasture : ByteArray := prog_12_method_67_code
def yX10_pasture : MethodName := ⟨RX10, "pasture", "(II)I"⟩
abbrev cX10_track : ByteArray := prog_12_method_68_code
def yX10_track : MethodName := ⟨RX10, "track", "(III)I"⟩
abbrev cX10_sumOf : ByteArray := prog_12_method_69_code
def yX10_sumOf : MethodName := ⟨RX10, "sumOf", "(I)I"⟩
abbrev cX10_shard : ByteArray := prog_12_method_70_code
def yX10_shard : MethodName := ⟨RX10, "shard", "(II)I"⟩
abbrev cX10_value : ByteArray := prog_12_method_71_code
def yX10_value : MethodName := ⟨RX10, "value", "(I)I"⟩
abbrev cX10_reader : ByteArray := prog_12_method_72_code
def yX10_reader : MethodName := ⟨RX10, "reader", "(II)I"⟩
abbrev cX10_remembered : ByteArray := prog_12_method_73_code
def yX10_remembered : MethodName := ⟨RX10, "remembered", "(II)I"⟩
abbrev cX10_reach : ByteArray := prog_12_method_74_code
def yX10_reach : MethodName := ⟨RX10, "reach", "(III)I"⟩
abbrev cX10_way : ByteArray := prog_12_method_75_code
def yX10_way : MethodName := ⟨RX10, "way", "(III)I"⟩
abbrev cX10_tracks : ByteArray := prog_12_method_76_code
def yX10_tracks : MethodName := ⟨RX10, "tracks", "()I"⟩
abbrev cX10_count : ByteArray := prog_12_method_77_code
def yX10_count : MethodName := ⟨RX10, "count", "(I)I"⟩
def RJx8e188 : String := "java/lang/Cloneable"
def TJx8e188 : u_T := fun k => match k with
  | _ => ("", "", "", false)
def tyJx8e188 : Nat → FieldType := fun k => match k with
  | _ => .int
abbrev wsJx8e1880 : List Cond := u_ws RJx8e188 TJx8e188 0
theorem nmJx8e188 : ∀ a, a < 0 → ∀ b, b < 0 → a ≠ b → (TJx8e188 a).2.1 ≠ (TJx8e188 b).2.1 := by decide +kernel
theorem tyJx8e188_ok : ∀ k, k < 0 → parseFieldDescriptor (TJx8e188 k).2.2.1 = some (tyJx8e188 k) := by decide +kernel
def RJ9 : String := "java/lang/Math"
def TJ9 : u_T := fun k => match k with
  | _ => ("", "", "", false)
def tyJ9 : Nat → FieldType := fun k => match k with
  | _ => .int
abbrev wsJ90 : List Cond := u_ws RJ9 TJ9 0
theorem nmJ9 : ∀ a, a < 0 → ∀ b, b < 0 → a ≠ b → (TJ9 a).2.1 ≠ (TJ9 b).2.1 := by decide +kernel
theorem tyJ9_ok : ∀ k, k < 0 → parseFieldDescriptor (TJ9 k).2.2.1 = some (tyJ9 k) := by decide +kernel
abbrev cJ9_abs_0f7a4 : ByteArray := prog_14_method_59_code
def yJ9_abs_0f7a4 : MethodName := ⟨RJ9, "abs", "(I)I"⟩
abbrev cJ9_max_7cf53 : ByteArray := prog_14_method_65_code
def yJ9_max_7cf53 : MethodName := ⟨RJ9, "max", "(II)I"⟩
abbrev cJ9_min_7cf53 : ByteArray := prog_14_method_69_code
def yJ9_min_7cf53 : MethodName := ⟨RJ9, "min", "(II)I"⟩
def RJ10 : String := "java/lang/System"
def TJ10 : u_T := fun k => match k with
  | _ => ("", "", "", false)
def tyJ10 : Nat → FieldType := fun k => match k with
  | _ => .int
abbrev wsJ100 : List Cond := u_ws RJ10 TJ10 0
theorem nmJ10 : ∀ a, a < 0 → ∀ b, b < 0 → a ≠ b → (TJ10 a).2.1 ≠ (TJ10 b).2.1 := by decide +kernel
theorem tyJ10_ok : ∀ k, k < 0 → parseFieldDescriptor (TJ10 k).2.2.1 = some (tyJ10 k) := by decide +kernel
def RJ7 : String := "java/util/Arrays"
def TJ7 : u_T := fun k => match k with
  | _ => ("", "", "", false)
def tyJ7 : Nat → FieldType := fun k => match k with
  | _ => .int
abbrev wsJ70 : List Cond := u_ws RJ7 TJ7 0
theorem nmJ7 : ∀ a, a < 0 → ∀ b, b < 0 → a ≠ b → (TJ7 a).2.1 ≠ (TJ7 b).2.1 := by decide +kernel
theorem tyJ7_ok : ∀ k, k < 0 → parseFieldDescriptor (TJ7 k).2.2.1 = some (tyJ7 k) := by decide +kernel
abbrev cJ7_fill_53178 : ByteArray := prog_16_method_103_code
def yJ7_fill_53178 : MethodName := ⟨RJ7, "fill", "([II)V"⟩
def RL : String := "ShardTrailsLaw"
abbrev cL_law : ByteArray := code
def yL_law : MethodName := ⟨RL, "law", "([I)Z"⟩
abbrev vwCl : List vw_C := [(RX0, TX0, 4), (RX1, TX1, 3), (RX2, TX2, 7), (RX3, TX3, 3), (RX4, TX4, 7), (RX5, TX5, 7), (RX6, TX6, 9), (RX7, TX7, 11), (RX8, TX8, 2), (RX9, TX9, 7), (RX10, TX10, 15)]
def wsU : List Cond := lw_tbl.filter goodWord
theorem wsU_good : GoodIn wsU wsU := fun w h => ⟨h, good_of_word (List.mem_filter.mp h).2⟩
theorem wsU_at {w : Cond} (i : Nat) (h : lw_tbl[i]? = some w) (hg : goodWord w = true) : w ∈ wsU := List.mem_filter.mpr ⟨List.mem_of_getElem? h, hg⟩
theorem wsU_ats (ws : List Cond) (ps : List Nat) (hp : ps.filterMap (fun i => lw_tbl[i]?) = ws) (hg : ws.all goodWord = true) : ∀ w ∈ ws, w ∈ wsU := by
  intro w hw
  have h1 := List.all_eq_true.mp hg w hw
  rw [← hp] at hw
  obtain ⟨i, -, hi⟩ := List.mem_filterMap.mp hw
  exact wsU_at i hi h1
theorem wsU_c0 {w : Cond} (i : Nat) (h : (k2_sels lw_privs)[i]? = some w) (hg : goodWord w = true) : w ∈ wsU := List.mem_filter.mpr ⟨List.mem_append_left _ (List.mem_of_getElem? h), hg⟩
theorem wsU_c1 {w : Cond} (i : Nat) (h : tables_1_1[i]? = some w) (hg : goodWord w = true) : w ∈ wsU := List.mem_filter.mpr ⟨List.mem_append_right _ (List.mem_append_left _ (List.mem_of_getElem? h)), hg⟩
theorem wsU_c2 {w : Cond} (i : Nat) (h : tables_1_2[i]? = some w) (hg : goodWord w = true) : w ∈ wsU := List.mem_filter.mpr ⟨List.mem_append_right _ (List.mem_append_right _ (List.mem_append_left _ (List.mem_of_getElem? h))), hg⟩
theorem wsU_c3 {w : Cond} (i : Nat) (h : tables_1_3[i]? = some w) (hg : goodWord w = true) : w ∈ wsU := List.mem_filter.mpr ⟨List.mem_append_right _ (List.mem_append_right _ (List.mem_append_right _ (List.mem_append_left _ (List.mem_of_getElem? h)))), hg⟩
theorem wsU_c4 {w : Cond} (i : Nat) (h : tables_1_4[i]? = some w) (hg : goodWord w = true) : w ∈ wsU := List.mem_filter.mpr ⟨List.mem_append_right _ (List.mem_append_right _ (List.mem_append_right _ (List.mem_append_right _ (List.mem_append_left _ (List.mem_of_getElem? h))))), hg⟩
theorem wsU_c5 {w : Cond} (i : Nat) (h : tables_1_5[i]? = some w) (hg : goodWord w = true) : w ∈ wsU := List.mem_filter.mpr ⟨List.mem_append_right _ (List.mem_append_right _ (List.mem_append_right _ (List.mem_append_right _ (List.mem_append_right _ (List.mem_of_getElem? h))))), hg⟩
theorem inX0 : ∀ w ∈ wsX00, w ∈ wsU := wsU_ats _ [173, 175, 177, 179] (by decide +kernel) (by decide +kernel)
theorem inX1 : ∀ w ∈ wsX10, w ∈ wsU := wsU_ats _ [298, 300, 302] (by decide +kernel) (by decide +kernel)
theorem inX2 : ∀ w ∈ wsX20, w ∈ wsU := wsU_ats _ [122, 124, 126, 128, 130, 132, 134] (by decide +kernel) (by decide +kernel)
theorem inX3 : ∀ w ∈ wsX30, w ∈ wsU := wsU_ats _ [194, 196, 198] (by decide +kernel) (by decide +kernel)
theorem inX4 : ∀ w ∈ wsX40, w ∈ wsU := wsU_ats _ [222, 224, 226, 228, 230, 232, 234] (by decide +kernel) (by decide +kernel)
theorem inX5 : ∀ w ∈ wsX50, w ∈ wsU := wsU_ats _ [367, 369, 371, 373, 375, 377, 379] (by decide +kernel) (by decide +kernel)
theorem inX6 : ∀ w ∈ wsX60, w ∈ wsU := wsU_ats _ [330, 332, 334, 336, 338, 340, 342, 344, 346] (by decide +kernel) (by decide +kernel)
theorem inX7 : ∀ w ∈ wsX70, w ∈ wsU := wsU_ats _ [262, 264, 266, 268, 270, 272, 274, 276, 278, 280, 282] (by decide +kernel) (by decide +kernel)
theorem inX8 : ∀ w ∈ wsX80, w ∈ wsU := wsU_ats _ [151, 153] (by decide +kernel) (by decide +kernel)
theorem inX9 : ∀ w ∈ wsX90, w ∈ wsU := wsU_ats _ [390, 392, 394, 396, 398, 400, 402] (by decide +kernel) (by decide +kernel)
theorem inX10 : ∀ w ∈ wsX100, w ∈ wsU := wsU_ats _ [850, 852, 854, 856, 858, 860, 862, 864, 866, 868, 870, 872, 874, 876, 878] (by decide +kernel) (by decide +kernel)
end
section
/-! numbers: an int of the machine as a whole number -/
def zI (z : Int) : Int32 := Int32.ofInt z
abbrev inR (a : Int) : Prop := -2147483648 ≤ a ∧ a ≤ 2147483647
theorem zI_add (a b : Int) : zI a + zI b = zI (a + b) := (Int32.ofInt_add a b).symm
theorem zI_sub (a b : Int) : zI a - zI b = zI (a - b) := (Int32.ofInt_sub a b).symm
theorem zI_mul (a b : Int) : zI a * zI b = zI (a * b) := (Int32.ofInt_mul a b).symm
theorem zI_neg (a : Int) : - zI a = zI (-a) := (Int32.ofInt_neg a).symm
theorem zI_toInt {a : Int} (h : inR a) : (zI a).toInt = a := Int32.toInt_ofInt_of_le (by omega) (by omega)
theorem zI_of (x : Int32) : x = zI x.toInt := (Int32.ofInt_toInt x).symm
theorem zI_in (x : Int32) : inR x.toInt := ⟨Int32.le_toInt x, by have := Int32.toInt_lt x; omega⟩
theorem zI_lt {a b : Int} (h : inR a ∧ inR b) : zI a < zI b ↔ a < b := by rw [Int32.lt_iff_toInt_lt, zI_toInt h.1, zI_toInt h.2]
theorem zI_le {a b : Int} (h : inR a ∧ inR b) : zI a ≤ zI b ↔ a ≤ b := by rw [Int32.le_iff_toInt_le, zI_toInt h.1, zI_toInt h.2]
theorem zI_eq {a b : Int} (h : inR a ∧ inR b) : zI a = zI b ↔ a = b := ⟨fun e => by rw [← zI_toInt h.1, e, zI_toInt h.2], fun e => by rw [e]⟩
theorem zI_0 : (0 : Int32) = zI 0 := by decide +kernel
theorem zI_div {a b : Int} (h : inR a ∧ inR b) : zI a / zI b = zI (a.tdiv b) :=
  (Int32.ofInt_tdiv (show (-2147483648 : Int) ≤ a from h.1.1) (show a ≤ (2147483647 : Int) from h.1.2) (show (-2147483648 : Int) ≤ b from h.2.1) (show b ≤ (2147483647 : Int) from h.2.2)).symm
theorem zI_rem {a b : Int} (h : inR a ∧ inR b) : zI a - zI a / zI b * zI b = zI (a.tmod b) := by
  rw [zI_div h, zI_mul, zI_sub]
  congr 1
  have := Int.mul_tdiv_add_tmod a b
  rw [Int.mul_comm] at this
  omega
theorem zI_ofNat (n : Nat) : Int32.ofNat n = zI (n : Int) := Int32.ofInt_eq_ofNat.symm
theorem zI_clamp {i : Int} (h : inR i) : (zI i).toNatClampNeg = i.toNat := Int32.toNatClampNeg_ofInt_of_le (by omega) (by omega)
theorem zI_vp {i : Int} {n : Nat} (h : 0 ≤ i ∧ i < (n : Int)) (hn : n ≤ 2147483647) : vp_in (zI i) n := by
  have hr : inR i := ⟨by omega, by omega⟩
  rw [vp_in_iff, zI_toInt hr]
  exact h
theorem zI_cl {i : Int} {n : Nat} (h : 0 ≤ i ∧ i < (n : Int)) (hn : n ≤ 2147483647) : (zI i).toNatClampNeg = i.toNat := zI_clamp ⟨by omega, by omega⟩
def iand (a b : Int) : Int := (zI a &&& zI b).toInt
def ior (a b : Int) : Int := (zI a ||| zI b).toInt
def ishl (a b : Int) : Int := (zI a <<< (zI b &&& 31)).toInt
def ishr (a b : Int) : Int := (zI a >>> (zI b &&& 31)).toInt
def imin (a b : Int) : Int := if b < a then b else a
def imax (a b : Int) : Int := if a < b then b else a
def iabs (a : Int) : Int := if 0 ≤ a then a else 0 - a
theorem zI_c2 {a : Int} (h : inR a) : ((zI a).toUInt32 % 65536).toInt32 = zI (a % 65536) := by
  apply Int32.toBitVec_inj.mp
  apply BitVec.eq_of_toNat_eq
  have e1 : ((zI a).toUInt32 % 65536).toInt32.toBitVec.toNat = (BitVec.ofInt 32 a).toNat % 65536 := by
    show ((zI a).toUInt32 % 65536).toNat = _
    rw [UInt32.toNat_mod]
    rfl
  have e2 : (zI (a % 65536)).toBitVec.toNat = (BitVec.ofInt 32 (a % 65536)).toNat := rfl
  rw [e1, e2, BitVec.toNat_ofInt, BitVec.toNat_ofInt]
  omega
/-! the memory: cells by number, each a row of whole numbers -/
abbrev Mem : Type := Nat → Nat → Int
def up (f : Nat → Int) (i : Nat) (v : Int) : Nat → Int := fun j => if j = i then v else f j
def wr (M : Mem) (k i : Nat) (v : Int) : Mem := fun a => if a = k then up (M k) i v else M a
def cpf (f g : Nat → Int) (sp dp n : Nat) : Nat → Int := fun k => if dp ≤ k ∧ k < dp + n then f (sp + (k - dp)) else g k
def cpM (M : Mem) (k0 : Nat) (sp : Int) (k1 : Nat) (dp n : Int) : Mem := fun a => if a = k1 then cpf (M k0) (M k1) sp.toNat dp.toNat n.toNat else M a
/-- 0 an object of a kind, 1 a row of ints, 2 of booleans, 3 of chars, 4 of states: with kind or length -/
def layS : List (Nat × Nat) := [(0, 7), (1, 6), (1, 4), (0, 2), (1, 8), (1, 8), (1, 8), (1, 8), (2, 8), (1, 128), (0, 8), (1, 128), (1, 128), (0, 0), (1, 16), (1, 16), (1, 16), (1, 256), (0, 3), (1, 3), (1, 3), (0, 4), (1, 6), (1, 6), (1, 6), (1, 6), (1, 6), (1, 96), (1, 16)]
def layL : List (Nat × Nat) := [(0, 9)] ++ layS ++ layS ++ layS ++ [(0, 1), (4, 4)] ++ layS ++ layS ++ layS ++ layS ++ [(0, 6), (1, 137), (2, 8), (2, 8), (0, 5), (1, 16), (1, 16), (1, 16), (3, 60)] ++ [(0, 10), (1, 6097), (1, 60), (1, 160)]
def lay (k : Nat) : Nat × Nat := layL.getD k (9, 0)
def offL : List (List Nat) := [[1, 2, 3, 4], [0, 0, 1], [0, 1, 2, 3, 4, 5, 6], [0, 1, 2], [0, 1, 2, 3, 4, 5, 6], [0, 0, 1, 2, 3, 4, 0], [0, 0, 0, 0, 0, 0, 1, 2, 3], [0, 0, 0, 1, 2, 3, 10, 13, 18, 21, 28], [1, 2], [1, 30, 59, 88, 206, 210, 0], [1, 0, 0, 2, 0, 3, 0, 0, 0, 0, 0, 0, 0, 0, 0]]
def off (ci j : Nat) : Nat := (offL.getD ci []).getD j 0
def nfl (ci : Nat) : Nat := (offL.getD ci []).length
theorem lay_small : ∀ k, k < 219 → (lay k).2 ≤ 6097 := by decide +kernel
def zN : Nat := 219
def zC (cas : Nat → ClassId) (ad : Nat → Nat) (k : Nat) (f : Nat → Int) : va_E := match lay k with
  | (0, ci) => .inr (ci, (List.range (nfl ci)).map (fun j => if off ci j = 0 then .int (zI (f j)) else .ref (ad (k + off ci j))))
  | (1, n) => .inl (cas 0, n, .inl (fun j => zI (f j)))
  | (2, n) => .inl (cas 1, n, .inl (fun j => zI (f j)))
  | (3, n) => .inl (cas 2, n, .inl (fun j => zI (f j)))
  | (_, n) => .inl (cas 3, n, .inr (.inr (.inr (.inr (fun j => some (ad (k + 1 + 29 * j)))))))
theorem zC_0 {cas : Nat → ClassId} {ad : Nat → Nat} {k ci : Nat} {f : Nat → Int} (h : lay k = (0, ci)) : zC cas ad k f = .inr (ci, (List.range (nfl ci)).map (fun j => if off ci j = 0 then .int (zI (f j)) else .ref (ad (k + off ci j)))) := by simp [zC, h]
theorem zC_1 {cas : Nat → ClassId} {ad : Nat → Nat} {k n : Nat} {f : Nat → Int} (h : lay k = (1, n)) : zC cas ad k f = .inl (cas 0, n, .inl (fun j => zI (f j))) := by simp [zC, h]
theorem zC_2 {cas : Nat → ClassId} {ad : Nat → Nat} {k n : Nat} {f : Nat → Int} (h : lay k = (2, n)) : zC cas ad k f = .inl (cas 1, n, .inl (fun j => zI (f j))) := by simp [zC, h]
theorem zC_3 {cas : Nat → ClassId} {ad : Nat → Nat} {k n : Nat} {f : Nat → Int} (h : lay k = (3, n)) : zC cas ad k f = .inl (cas 2, n, .inl (fun j => zI (f j))) := by simp [zC, h]
theorem zC_4 {cas : Nat → ClassId} {ad : Nat → Nat} {k n : Nat} {f : Nat → Int} (h : lay k = (4, n)) : zC cas ad k f = .inl (cas 3, n, .inr (.inr (.inr (.inr (fun j => some (ad (k + 1 + 29 * j))))))) := by simp [zC, h]
def zG (ad : Nat → Nat) (C : Nat → va_E) : va_W := (List.range zN).map (fun k => (ad k, C k))
def zW (cas : Nat → ClassId) (ad : Nat → Nat) (M : Mem) : va_W := zG ad (fun k => zC cas ad k (M k))
theorem zG_get {ad : Nat → Nat} {C : Nat → va_E} {k : Nat} (h : k < zN) : (zG ad C)[k]? = some (ad k, C k) := by
  unfold zG
  rw [List.getElem?_map, List.getElem?_range h]
  rfl
theorem zG_set {ad : Nat → Nat} {C : Nat → va_E} {k : Nat} (h : k < zN) (x : va_E) : (zG ad C).set k (ad k, x) = zG ad (fun a => if a = k then x else C a) := by
  apply List.ext_getElem?
  intro i
  rw [List.getElem?_set]
  by_cases hi : i < zN
  · rw [zG_get hi]
    by_cases e : k = i
    · subst e
      simp [zG, hi]
    · rw [if_neg e, zG_get hi, if_neg (fun q => e q.symm)]
  · have h1 : ∀ C' : Nat → va_E, (zG ad C')[i]? = none := fun C' => List.getElem?_eq_none (by simp [zG]; omega)
    rw [if_neg (by omega), h1, h1]
theorem zW_get {cas : Nat → ClassId} {ad : Nat → Nat} {M : Mem} {k : Nat} (h : k < zN) : (zW cas ad M)[k]? = some (ad k, zC cas ad k (M k)) := zG_get h
theorem zW_set {cas : Nat → ClassId} {ad : Nat → Nat} {M : Mem} {k : Nat} (h : k < zN) {x : va_E} {f : Nat → Int} (hx : x = zC cas ad k f) : (zW cas ad M).set k (ad k, x) = zW cas ad (fun a => if a = k then f else M a) := by
  unfold zW
  rw [zG_set h, hx]
  unfold zG
  congr 1
  funext a
  by_cases e : a = k
  · subst e; simp
  · simp [e]
def zA (ad : Nat → Nat) : Nat → Prop := fun q => ∃ k, k < zN ∧ q = ad k
def zInj (ad : Nat → Nat) : Prop := ∀ i j, i < zN → j < zN → ad i = ad j → i = j
theorem zD {A : Nat → Prop} {ad : Nat → Nat} (hi : zInj ad) (hA : ∀ q, zA ad q → A q) (C : Nat → va_E) : va_D A (zG ad C) := by
  have key : ∀ (i : Nat) (p : Nat × va_E), (zG ad C)[i]? = some p → i < zN ∧ p = (ad i, C i) := by
    intro i p h
    by_cases hl : i < zN
    · rw [zG_get hl] at h; cases h; exact ⟨hl, rfl⟩
    · rw [List.getElem?_eq_none (by simp [zG]; omega)] at h; cases h
  refine ⟨fun i j p q hp hq e => ?_, fun k q hk => ?_⟩
  · obtain ⟨h1, rfl⟩ := key i p hp
    obtain ⟨h2, rfl⟩ := key j q hq
    exact hi i j h1 h2 e
  · obtain ⟨h1, rfl⟩ := key k q hk
    exact hA _ ⟨k, h1, rfl⟩
/-! what else a state must hold: array kinds, links of nest mates, the four static rows -/
def zT (cas : Nat → ClassId) : List (ClassId × FieldType) := [(cas 0, .int), (cas 1, .boolean), (cas 2, .char), (cas 3, .object "ShardTrails$State")]
def zNest : List (String × Nat × MethodName × String) := [("ShardTrails", 11, ⟨"ShardTrails$State", "<init>", "()V"⟩, "ShardTrails"), ("ShardTrails$State", 45, ⟨"ShardTrails$Herd", "<init>", "()V"⟩, "ShardTrails"), ("ShardTrails$State", 52, ⟨"ShardTrails$Pack", "<init>", "()V"⟩, "ShardTrails"), ("ShardTrails$State", 59, ⟨"ShardTrails$Readers", "<init>", "()V"⟩, "ShardTrails"), ("ShardTrails$History", 17, ⟨"ShardTrails$State", "<init>", "()V"⟩, "ShardTrails"), ("ShardTrails", 31, ⟨"ShardTrails$Route", "<init>", "()V"⟩, "ShardTrails"), ("ShardTrails", 38, ⟨"ShardTrails$RequestText", "<init>", "()V"⟩, "ShardTrails"), ("ShardTrails$State", 77, ⟨"ShardTrails", "copyRow", "([I[I)V"⟩, "ShardTrails"), ("ShardTrails$Land", 41, ⟨"ShardTrails", "copyRow", "([I[I)V"⟩, "ShardTrails"), ("ShardTrails$Tracks", 24, ⟨"ShardTrails", "copyRow", "([I[I)V"⟩, "ShardTrails"), ("ShardTrails$Herd", 24, ⟨"ShardTrails", "copyRow", "([I[I)V"⟩, "ShardTrails"), ("ShardTrails$Pack", 22, ⟨"ShardTrails", "copyRow", "([I[I)V"⟩, "ShardTrails"), ("ShardTrails$Readers", 34, ⟨"ShardTrails", "copyRow", "([I[I)V"⟩, "ShardTrails"), ("ShardTrails$Land", 51, ⟨"ShardTrails", "cell", "(II)I"⟩, "ShardTrails"), ("ShardTrails$Readers", 38, ⟨"ShardTrails", "cell", "(II)I"⟩, "ShardTrails"), ("ShardTrails$Tracks", 28, ⟨"ShardTrails", "cell", "(II)I"⟩, "ShardTrails"), ("ShardTrails$Route", 33, ⟨"ShardTrails", "cell", "(II)I"⟩, "ShardTrails")]
def zNestF : List (String × Nat × String) := [("ShardTrails$State", 9, "FIRST_NUMBERS"), ("ShardTrails$State", 23, "FIRST_LATITUDES")]
def zNW (U : State) : Prop := (∀ q ∈ zNest, va_Nw (.methodLinkNest q.1 q.2.1 q.2.2.1 q.2.2.2) U) ∧ (∀ q ∈ zNestF, va_Nw (.fieldLinkNest q.1 q.2.1 "ShardTrails" q.2.2 "[I" "ShardTrails") U) ∧ va_Nw (.castable "[I" "java/lang/Cloneable") U ∧ va_AO "ShardTrails$State" U
theorem zNW.warm {s U : State} (hW : s.WarmedH U.vm) (h : zNW s) : zNW U := ⟨fun q hq => va_Nw.warmM hW (h.1 q hq), fun q hq => va_Nw.warmF hW (h.2.1 q hq), va_Nw.warmC hW h.2.2.1, va_AO.moved hW.alike h.2.2.2⟩
def zR0 (j : Nat) : Int := [1, 1, 1, 0, 1, 0].getD j 0
def zR1 (j : Nat) : Int := [30, 60, 90, 16, 30, 100].getD j 0
def zR2 (j : Nat) : Int := [5, 10, 10, 4, 3, 20].getD j 0
def zR3 (j : Nat) : Int := [60, 40, 20, 40].getD j 0
def zSx (t N : Nat) (U : State) (H : Heap) : Prop := ∃ cell : Cell, H[t]? = some cell ∧ cell.slots.size = N ∧ U.vm.findClass "[I" = some cell.cls ∧ ∀ k, cell.vm ≠ .statics k
def zS1 (n : String) (N : Nat) (f : Nat → Int) (A : Nat → Prop) (U : State) (H : Heap) : Prop := ∃ t : Nat, va_Z "ShardTrails" n "[I" (.ref t) A U H ∧ va_T .int t N (fun j => .int (zI (f j))) A U H ∧ zSx t N U H
theorem zS1.moved {n : String} {N : Nat} {f : Nat → Int} {A : Nat → Prop} {u U : State} {H : Heap} (hvm : u.vm.Alike U.vm) (h : zS1 n N f A u H) : zS1 n N f A U H := by
  obtain ⟨t, h1, h2, cell, h3, h4, h5, h6⟩ := h
  exact ⟨t, h1.moved hvm, h2.moved hvm, cell, h3, h4, by rw [hvm.findClass]; exact h5, h6⟩
theorem zS1.kept {n : String} {N : Nat} {f : Nat → Int} {A : Nat → Prop} {U : State} {H H1 : Heap} (h : zS1 n N f A U H) (hq : ∀ a : Nat, a < H.size → ¬ A a → H1[a]? = H[a]?) : zS1 n N f A U H1 := by
  obtain ⟨t, h1, h2, cell, h3, h4, h5, h6⟩ := h
  exact ⟨t, h1.kept hq, h2.kept hq, cell, by rw [hq t (Array.getElem?_eq_some_iff.mp h3).1 h2.out]; exact h3, h4, h5, h6⟩
theorem zS1.narrow {n : String} {N : Nat} {f : Nat → Int} {A B : Nat → Prop} {U : State} {H : Heap} (h : zS1 n N f A U H) (hAB : ∀ q, B q → A q) : zS1 n N f B U H := by
  obtain ⟨t, h1, h2, h3⟩ := h
  exact ⟨t, h1.narrow hAB, h2.narrow hAB, h3⟩
def zST (A : Nat → Prop) (U : State) (H : Heap) : Prop := zS1 "LEAST_NUMBERS" 6 zR0 A U H ∧ zS1 "MOST_NUMBERS" 6 zR1 A U H ∧ zS1 "FIRST_NUMBERS" 6 zR2 A U H ∧ zS1 "FIRST_LATITUDES" 4 zR3 A U H
theorem zST.moved {A : Nat → Prop} {u U : State} {H : Heap} (hvm : u.vm.Alike U.vm) (h : zST A u H) : zST A U H := ⟨h.1.moved hvm, h.2.1.moved hvm, h.2.2.1.moved hvm, h.2.2.2.moved hvm⟩
theorem zST.kept {A : Nat → Prop} {U : State} {H H1 : Heap} (h : zST A U H) (hq : ∀ a : Nat, a < H.size → ¬ A a → H1[a]? = H[a]?) : zST A U H1 := ⟨h.1.kept hq, h.2.1.kept hq, h.2.2.1.kept hq, h.2.2.2.kept hq⟩
theorem zST.narrow {A B : Nat → Prop} {U : State} {H : Heap} (h : zST A U H) (hAB : ∀ q, B q → A q) : zST B U H := ⟨h.1.narrow hAB, h.2.1.narrow hAB, h.2.2.1.narrow hAB, h.2.2.2.narrow hAB⟩
end
section
/-! one instruction, one row: over the memory of whole numbers -/
def zX (p : Program) (s : State) (m : MethodId) (args : Array Value) (c : Code) (cc : ByteArray) (own : String) (nL : Nat) (D : va_G) (cas : Nat → ClassId) (ad : Nat → Nat) (A : Nat → Prop) : Prop :=
  p.tables.exec = Jvm.exec ∧ c.code = cc ∧ c.maxLocals = nL ∧ s.vm.findClass own = some m.cls ∧ (∀ w ∈ wsU, w.before args s = true) ∧ va_K D vwCl (zT cas) s ∧ zNW s ∧ (∀ C, va_D A (zG ad C)) ∧ (∀ q, zA ad q → A q) ∧ zST A s s.heap
def WW (p : Program) (l : Launch) (e : Env) (R : Room) (s : State) (m : MethodId) (args : Array Value) (below : List Frame) (meth : Method) (c : Code) (D : va_G) (cas : Nat → ClassId) (ad : Nat → Nat) (A : Nat → Prop) (nL k0 n0 : Nat) (Q : State → Prop) (pc : Nat) (lv : List (Nat × Value)) (st : List Value) (M : Mem) : Prop :=
  ∀ (H : Heap) (locs : List Loc) (ls : Array Slot), va_P D vwCl (zW cas ad M) H → va_S A s.heap H locs → lv_has ls nL lv → W p l e R s m args below meth c H locs k0 n0 Q (F0 m pc ls st)
theorem zgrd {α : Type} {g : Prop} {h : Decidable g} {b : Option α} {y : α} (hf : (if g then b else none) = some y) : g ∧ b = some y := by
  by_cases q : g
  · rw [if_pos q] at hf; exact ⟨q, hf⟩
  · rw [if_neg q] at hf; cases hf
def zbnd (o : Option (Int × Mem)) (g : Int → Mem → Option (Int × Mem)) : Option (Int × Mem) := match o with
  | none => none
  | some q => g q.1 q.2
theorem zbnd_some {o : Option (Int × Mem)} {g : Int → Mem → Option (Int × Mem)} {y : Int × Mem} (h : zbnd o g = some y) : ∃ r M, o = some (r, M) ∧ g r M = some y := by
  cases o with
  | none => cases h
  | some q => exact ⟨q.1, q.2, rfl, h⟩
def zlt {α β : Type} (a : α) (f : α → β) : β := f a
theorem zlt_some {α β : Type} {a : α} {f : α → Option β} {y : β} (h : zlt a f = some y) : ∃ x, x = a ∧ f x = some y := ⟨a, rfl, h⟩
theorem zthen {α : Type} {g : Prop} {h : Decidable g} {a b : Option α} {y : α} (hf : (if g then a else b) = some y) (c : g) : a = some y := by rw [if_pos c] at hf; exact hf
theorem zelse {α : Type} {g : Prop} {h : Decidable g} {a b : Option α} {y : α} (hf : (if g then a else b) = some y) (c : ¬ g) : b = some y := by rw [if_neg c] at hf; exact hf
section ZR
variable {p : Program} {l : Launch} {e : Env} {R : Room} {s : State} {m : MethodId} {args : Array Value} {below : List Frame} {meth : Method} {c : Code} {D : va_G} {cas : Nat → ClassId} {ad : Nat → Nat} {A : Nat → Prop} {nL k0 n0 : Nat} {Q : State → Prop}
variable {cc : ByteArray} {own : String} {pc : Nat} {lv : List (Nat × Value)} {st rest : List Value} {M : Mem}
theorem R_iconst (X : zX p s m args c cc own nL D cas ad A) {n : Int} (hd : decode cc pc = .ok (.iconst n, 1)) (k : WW p l e R s m args below meth c D cas ad A nL k0 n0 Q (pc + 1) lv (.int (zI n) :: st) M) : WW p l e R s m args below meth c D cas ad A nL k0 n0 Q pc lv st M :=
  fun H locs ls hP hS hl => lv_iconst X.1 X.2.1 hd rfl (k H locs ls hP hS hl)
theorem R_bipush (X : zX p s m args c cc own nL D cas ad A) {n : Int} (hd : decode cc pc = .ok (.bipush n, 2)) (hv : (Int8.ofInt n).toInt32 = zI n) (k : WW p l e R s m args below meth c D cas ad A nL k0 n0 Q (pc + 2) lv (.int (zI n) :: st) M) : WW p l e R s m args below meth c D cas ad A nL k0 n0 Q pc lv st M :=
  fun H locs ls hP hS hl => lv_bipush X.1 X.2.1 hd hv (k H locs ls hP hS hl)
theorem R_sipush (X : zX p s m args c cc own nL D cas ad A) {n : Int} (hd : decode cc pc = .ok (.sipush n, 3)) (hv : (Int16.ofInt n).toInt32 = zI n) (k : WW p l e R s m args below meth c D cas ad A nL k0 n0 Q (pc + 3) lv (.int (zI n) :: st) M) : WW p l e R s m args below meth c D cas ad A nL k0 n0 Q pc lv st M :=
  fun H locs ls hP hS hl => lv_sipush X.1 X.2.1 hd hv (k H locs ls hP hS hl)
theorem R_iload_n (X : zX p s m args c cc own nL D cas ad A) {k : Fin 4} {i : Nat} {x : Int32} (j : Nat) (hd : decode cc pc = .ok (.iload_n k, 1)) (hi : (k : Nat) = i) (hj : lv[j]? = some (i, .int x)) (kk : WW p l e R s m args below meth c D cas ad A nL k0 n0 Q (pc + 1) lv (.int x :: st) M) : WW p l e R s m args below meth c D cas ad A nL k0 n0 Q pc lv st M :=
  fun H locs ls hP hS hl => lv_iload_n X.1 X.2.1 hd hi (lv_at hl j hj) (kk H locs ls hP hS hl)
theorem R_iload (X : zX p s m args c cc own nL D cas ad A) {i : Nat} {x : Int32} (j : Nat) (hd : decode cc pc = .ok (.iload i, 2)) (hj : lv[j]? = some (i, .int x)) (kk : WW p l e R s m args below meth c D cas ad A nL k0 n0 Q (pc + 2) lv (.int x :: st) M) : WW p l e R s m args below meth c D cas ad A nL k0 n0 Q pc lv st M :=
  fun H locs ls hP hS hl => lv_iload X.1 X.2.1 hd (lv_at hl j hj) (kk H locs ls hP hS hl)
theorem R_aload_n (X : zX p s m args c cc own nL D cas ad A) {k : Fin 4} {i : Nat} {x : Nat} (j : Nat) (hd : decode cc pc = .ok (.aload_n k, 1)) (hi : (k : Nat) = i) (hj : lv[j]? = some (i, .ref x)) (kk : WW p l e R s m args below meth c D cas ad A nL k0 n0 Q (pc + 1) lv (.ref x :: st) M) : WW p l e R s m args below meth c D cas ad A nL k0 n0 Q pc lv st M :=
  fun H locs ls hP hS hl => lv_aload_n X.1 X.2.1 hd hi (lv_at hl j hj) (kk H locs ls hP hS hl)
theorem R_aload (X : zX p s m args c cc own nL D cas ad A) {i : Nat} {x : Nat} (j : Nat) (hd : decode cc pc = .ok (.aload i, 2)) (hj : lv[j]? = some (i, .ref x)) (kk : WW p l e R s m args below meth c D cas ad A nL k0 n0 Q (pc + 2) lv (.ref x :: st) M) : WW p l e R s m args below meth c D cas ad A nL k0 n0 Q pc lv st M :=
  fun H locs ls hP hS hl => lv_aload X.1 X.2.1 hd (lv_at hl j hj) (kk H locs ls hP hS hl)
theorem R_istore_n (X : zX p s m args c cc own nL D cas ad A) {k : Fin 4} {i : Nat} {x : Int32} {lv' : List (Nat × Value)} (hd : decode cc pc = .ok (.istore_n k, 1)) (hi : (k : Nat) = i) (hn : i < nL) (hl' : (i, Value.int x) :: lv.filter (fun q => !(q.1 == i) && !(q.1 + 1 == i && q.2.category == 2)) = lv') (kk : WW p l e R s m args below meth c D cas ad A nL k0 n0 Q (pc + 1) lv' st M) : WW p l e R s m args below meth c D cas ad A nL k0 n0 Q pc lv (.int x :: st) M :=
  fun H locs _ hP hS hl => lv_istore_n X.1 X.2.1 hd hi hl hn hl' (fun ls' h => kk H locs ls' hP hS h)
theorem R_istore (X : zX p s m args c cc own nL D cas ad A) {i : Nat} {x : Int32} {lv' : List (Nat × Value)} (hd : decode cc pc = .ok (.istore i, 2)) (hn : i < nL) (hl' : (i, Value.int x) :: lv.filter (fun q => !(q.1 == i) && !(q.1 + 1 == i && q.2.category == 2)) = lv') (kk : WW p l e R s m args below meth c D cas ad A nL k0 n0 Q (pc + 2) lv' st M) : WW p l e R s m args below meth c D cas ad A nL k0 n0 Q pc lv (.int x :: st) M :=
  fun H locs _ hP hS hl => lv_istore X.1 X.2.1 hd hl hn hl' (fun ls' h => kk H locs ls' hP hS h)
theorem R_iinc (X : zX p s m args c cc own nL D cas ad A) {i : Nat} {n x : Int} {lv' : List (Nat × Value)} (j : Nat) (hd : decode cc pc = .ok (.iinc i n, 3)) (hj : lv[j]? = some (i, .int (zI x))) (hn : i < nL) (hl' : (i, Value.int (zI (x + n))) :: lv.filter (fun q => !(q.1 == i) && !(q.1 + 1 == i && q.2.category == 2)) = lv') (kk : WW p l e R s m args below meth c D cas ad A nL k0 n0 Q (pc + 3) lv' st M) : WW p l e R s m args below meth c D cas ad A nL k0 n0 Q pc lv st M :=
  fun H locs _ hP hS hl => lv_iinc X.1 X.2.1 hd hl hj (zI_add x n) hn hl' (fun ls' h => kk H locs ls' hP hS h)
theorem R_sub {lv' : List (Nat × Value)} (ks : List Nat) (h : lv_pick lv ks = lv') (kk : WW p l e R s m args below meth c D cas ad A nL k0 n0 Q pc lv' st M) : WW p l e R s m args below meth c D cas ad A nL k0 n0 Q pc lv st M :=
  fun H locs ls hP hS hl => kk H locs ls hP hS (lv_sub hl ks h)
theorem R_iadd (X : zX p s m args c cc own nL D cas ad A) {a b : Int} (hd : decode cc pc = .ok (.iadd, 1)) (k : WW p l e R s m args below meth c D cas ad A nL k0 n0 Q (pc + 1) lv (.int (zI (a + b)) :: st) M) : WW p l e R s m args below meth c D cas ad A nL k0 n0 Q pc lv (.int (zI b) :: .int (zI a) :: st) M :=
  fun H locs ls hP hS hl => lv_iadd X.1 X.2.1 hd (by rw [zI_add]; exact k H locs ls hP hS hl)
theorem R_isub (X : zX p s m args c cc own nL D cas ad A) {a b : Int} (hd : decode cc pc = .ok (.isub, 1)) (k : WW p l e R s m args below meth c D cas ad A nL k0 n0 Q (pc + 1) lv (.int (zI (a - b)) :: st) M) : WW p l e R s m args below meth c D cas ad A nL k0 n0 Q pc lv (.int (zI b) :: .int (zI a) :: st) M :=
  fun H locs ls hP hS hl => lv_isub X.1 X.2.1 hd (by rw [zI_sub]; exact k H locs ls hP hS hl)
theorem R_imul (X : zX p s m args c cc own nL D cas ad A) {a b : Int} (hd : decode cc pc = .ok (.imul, 1)) (k : WW p l e R s m args below meth c D cas ad A nL k0 n0 Q (pc + 1) lv (.int (zI (a * b)) :: st) M) : WW p l e R s m args below meth c D cas ad A nL k0 n0 Q pc lv (.int (zI b) :: .int (zI a) :: st) M :=
  fun H locs ls hP hS hl => lv_imul X.1 X.2.1 hd (by rw [zI_mul]; exact k H locs ls hP hS hl)
theorem R_ineg (X : zX p s m args c cc own nL D cas ad A) {a : Int} (hd : decode cc pc = .ok (.ineg, 1)) (k : WW p l e R s m args below meth c D cas ad A nL k0 n0 Q (pc + 1) lv (.int (zI (-a)) :: st) M) : WW p l e R s m args below meth c D cas ad A nL k0 n0 Q pc lv (.int (zI a) :: st) M :=
  fun H locs ls hP hS hl => lv_ineg X.1 X.2.1 hd (by rw [zI_neg]; exact k H locs ls hP hS hl)
theorem R_idiv (X : zX p s m args c cc own nL D cas ad A) {a b : Int} (hg : (inR a ∧ inR b) ∧ b ≠ 0) (hd : decode cc pc = .ok (.idiv, 1)) (k : WW p l e R s m args below meth c D cas ad A nL k0 n0 Q (pc + 1) lv (.int (zI (a.tdiv b)) :: st) M) : WW p l e R s m args below meth c D cas ad A nL k0 n0 Q pc lv (.int (zI b) :: .int (zI a) :: st) M :=
  fun H locs ls hP hS hl => lv_idiv X.1 X.2.1 hd (fun q => hg.2 ((zI_eq ⟨hg.1.2, by decide⟩).mp (q.trans zI_0))) (by rw [zI_div hg.1]; exact k H locs ls hP hS hl)
theorem R_irem (X : zX p s m args c cc own nL D cas ad A) {a b : Int} (hg : (inR a ∧ inR b) ∧ b ≠ 0) (hd : decode cc pc = .ok (.irem, 1)) (k : WW p l e R s m args below meth c D cas ad A nL k0 n0 Q (pc + 1) lv (.int (zI (a.tmod b)) :: st) M) : WW p l e R s m args below meth c D cas ad A nL k0 n0 Q pc lv (.int (zI b) :: .int (zI a) :: st) M :=
  fun H locs ls hP hS hl => lv_irem X.1 X.2.1 hd (fun q => hg.2 ((zI_eq ⟨hg.1.2, by decide⟩).mp (q.trans zI_0))) (by rw [zI_rem hg.1]; exact k H locs ls hP hS hl)
theorem R_iand (X : zX p s m args c cc own nL D cas ad A) {a b : Int} (hd : decode cc pc = .ok (.iand, 1)) (k : WW p l e R s m args below meth c D cas ad A nL k0 n0 Q (pc + 1) lv (.int (zI (iand a b)) :: st) M) : WW p l e R s m args below meth c D cas ad A nL k0 n0 Q pc lv (.int (zI b) :: .int (zI a) :: st) M :=
  fun H locs ls hP hS hl => lv_iand X.1 X.2.1 hd (by rw [zI_of (zI a &&& zI b)]; exact k H locs ls hP hS hl)
theorem R_ior (X : zX p s m args c cc own nL D cas ad A) {a b : Int} (hd : decode cc pc = .ok (.ior, 1)) (k : WW p l e R s m args below meth c D cas ad A nL k0 n0 Q (pc + 1) lv (.int (zI (ior a b)) :: st) M) : WW p l e R s m args below meth c D cas ad A nL k0 n0 Q pc lv (.int (zI b) :: .int (zI a) :: st) M :=
  fun H locs ls hP hS hl => lv_ior X.1 X.2.1 hd (by rw [zI_of (zI a ||| zI b)]; exact k H locs ls hP hS hl)
theorem R_ishl (X : zX p s m args c cc own nL D cas ad A) {a b : Int} (hd : decode cc pc = .ok (.ishl, 1)) (k : WW p l e R s m args below meth c D cas ad A nL k0 n0 Q (pc + 1) lv (.int (zI (ishl a b)) :: st) M) : WW p l e R s m args below meth c D cas ad A nL k0 n0 Q pc lv (.int (zI b) :: .int (zI a) :: st) M :=
  fun H locs ls hP hS hl => lv_ishl X.1 X.2.1 hd (by rw [zI_of (zI a <<< (zI b &&& 31))]; exact k H locs ls hP hS hl)
theorem R_ishr (X : zX p s m args c cc own nL D cas ad A) {a b : Int} (hd : decode cc pc = .ok (.ishr, 1)) (k : WW p l e R s m args below meth c D cas ad A nL k0 n0 Q (pc + 1) lv (.int (zI (ishr a b)) :: st) M) : WW p l e R s m args below meth c D cas ad A nL k0 n0 Q pc lv (.int (zI b) :: .int (zI a) :: st) M :=
  fun H locs ls hP hS hl => lv_ishr X.1 X.2.1 hd (by rw [zI_of (zI a >>> (zI b &&& 31))]; exact k H locs ls hP hS hl)
theorem R_i2c (X : zX p s m args c cc own nL D cas ad A) {a : Int} (hg : inR a) (hd : decode cc pc = .ok (.i2c, 1)) (k : WW p l e R s m args below meth c D cas ad A nL k0 n0 Q (pc + 1) lv (.int (zI (a % 65536)) :: st) M) : WW p l e R s m args below meth c D cas ad A nL k0 n0 Q pc lv (.int (zI a) :: st) M :=
  fun H locs ls hP hS hl => lv_i2c X.1 X.2.1 hd (zI_c2 hg) (k H locs ls hP hS hl)
theorem R_dup (X : zX p s m args c cc own nL D cas ad A) {v : Value} (hd : decode cc pc = .ok (.dup, 1)) (hv : v.category = 1) (k : WW p l e R s m args below meth c D cas ad A nL k0 n0 Q (pc + 1) lv (v :: v :: st) M) : WW p l e R s m args below meth c D cas ad A nL k0 n0 Q pc lv (v :: st) M :=
  fun H locs ls hP hS hl => lv_dup X.1 X.2.1 hd hv (k H locs ls hP hS hl)
theorem R_dup2 (X : zX p s m args c cc own nL D cas ad A) {v w : Value} (hd : decode cc pc = .ok (.dup2, 1)) (hv : v.category = 1) (hw : w.category = 1) (k : WW p l e R s m args below meth c D cas ad A nL k0 n0 Q (pc + 1) lv (v :: w :: v :: w :: st) M) : WW p l e R s m args below meth c D cas ad A nL k0 n0 Q pc lv (v :: w :: st) M :=
  fun H locs ls hP hS hl => lv_dup2_11 X.1 X.2.1 hd hv hw (k H locs ls hP hS hl)
theorem R_dup_x1 (X : zX p s m args c cc own nL D cas ad A) {v w : Value} (hd : decode cc pc = .ok (.dup_x1, 1)) (hv : v.category = 1) (hw : w.category = 1) (k : WW p l e R s m args below meth c D cas ad A nL k0 n0 Q (pc + 1) lv (v :: w :: v :: st) M) : WW p l e R s m args below meth c D cas ad A nL k0 n0 Q pc lv (v :: w :: st) M :=
  fun H locs ls hP hS hl => lv_dup_x1 X.1 X.2.1 hd hv hw (k H locs ls hP hS hl)
theorem R_pop (X : zX p s m args c cc own nL D cas ad A) {v : Value} (hd : decode cc pc = .ok (.pop, 1)) (hv : v.category = 1) (k : WW p l e R s m args below meth c D cas ad A nL k0 n0 Q (pc + 1) lv st M) : WW p l e R s m args below meth c D cas ad A nL k0 n0 Q pc lv (v :: st) M :=
  fun H locs ls hP hS hl => lv_pop X.1 X.2.1 hd hv (k H locs ls hP hS hl)
theorem R_goto (X : zX p s m args c cc own nL D cas ad A) {o : Int} (tgt : Nat) (hd : decode cc pc = .ok (.goto o, 3)) (ht : (pc : Int) + o = (tgt : Int)) (k : WW p l e R s m args below meth c D cas ad A nL k0 n0 Q tgt lv st M) : WW p l e R s m args below meth c D cas ad A nL k0 n0 Q pc lv st M :=
  fun H locs ls hP hS hl => lv_goto X.1 X.2.1 hd ht (k H locs ls hP hS hl)
theorem zI_r0 : inR 0 := by decide
theorem zI_eq0 {a : Int} (h : inR a) : zI a = 0 ↔ a = 0 := by rw [zI_0]; exact zI_eq ⟨h, zI_r0⟩
theorem zI_lt0 {a : Int} (h : inR a) : zI a < 0 ↔ a < 0 := by rw [zI_0]; exact zI_lt ⟨h, zI_r0⟩
theorem zI_le0 {a : Int} (h : inR a) : zI a ≤ 0 ↔ a ≤ 0 := by rw [zI_0]; exact zI_le ⟨h, zI_r0⟩
theorem zI_ge0 {a : Int} (h : inR a) : 0 ≤ zI a ↔ 0 ≤ a := by rw [zI_0]; exact zI_le ⟨zI_r0, h⟩
theorem zI_gt0 {a : Int} (h : inR a) : 0 < zI a ↔ 0 < a := by rw [zI_0]; exact zI_lt ⟨zI_r0, h⟩
theorem R_icmp_eq (X : zX p s m args c cc own nL D cas ad A) {a b : Int} {o : Int} (tgt : Nat) (hg : inR a ∧ inR b) (hd : decode cc pc = .ok (.if_icmp .eq o, 3)) (ht : (pc : Int) + o = (tgt : Int)) (kt : a = b → WW p l e R s m args below meth c D cas ad A nL k0 n0 Q tgt lv st M) (kf : ¬ (a = b) → WW p l e R s m args below meth c D cas ad A nL k0 n0 Q (pc + 3) lv st M) : WW p l e R s m args below meth c D cas ad A nL k0 n0 Q pc lv (.int (zI b) :: .int (zI a) :: st) M :=
  fun H locs ls hP hS hl => lv_icmp_eq X.1 X.2.1 hd ht (fun q => kt ((zI_eq hg).mp q) H locs ls hP hS hl) (fun q => kf (fun z => q ((zI_eq hg).mpr z)) H locs ls hP hS hl)
theorem R_icmp_ne (X : zX p s m args c cc own nL D cas ad A) {a b : Int} {o : Int} (tgt : Nat) (hg : inR a ∧ inR b) (hd : decode cc pc = .ok (.if_icmp .ne o, 3)) (ht : (pc : Int) + o = (tgt : Int)) (kt : ¬ (a = b) → WW p l e R s m args below meth c D cas ad A nL k0 n0 Q tgt lv st M) (kf : a = b → WW p l e R s m args below meth c D cas ad A nL k0 n0 Q (pc + 3) lv st M) : WW p l e R s m args below meth c D cas ad A nL k0 n0 Q pc lv (.int (zI b) :: .int (zI a) :: st) M :=
  fun H locs ls hP hS hl => lv_icmp_ne X.1 X.2.1 hd ht (fun q => kt (fun z => q ((zI_eq hg).mpr z)) H locs ls hP hS hl) (fun q => kf ((zI_eq hg).mp q) H locs ls hP hS hl)
theorem R_icmp_lt (X : zX p s m args c cc own nL D cas ad A) {a b : Int} {o : Int} (tgt : Nat) (hg : inR a ∧ inR b) (hd : decode cc pc = .ok (.if_icmp .lt o, 3)) (ht : (pc : Int) + o = (tgt : Int)) (kt : a < b → WW p l e R s m args below meth c D cas ad A nL k0 n0 Q tgt lv st M) (kf : ¬ (a < b) → WW p l e R s m args below meth c D cas ad A nL k0 n0 Q (pc + 3) lv st M) : WW p l e R s m args below meth c D cas ad A nL k0 n0 Q pc lv (.int (zI b) :: .int (zI a) :: st) M :=
  fun H locs ls hP hS hl => lv_icmp_lt X.1 X.2.1 hd ht (fun q => kt ((zI_lt hg).mp q) H locs ls hP hS hl) (fun q => kf (fun z => q ((zI_lt hg).mpr z)) H locs ls hP hS hl)
theorem R_icmp_ge (X : zX p s m args c cc own nL D cas ad A) {a b : Int} {o : Int} (tgt : Nat) (hg : inR a ∧ inR b) (hd : decode cc pc = .ok (.if_icmp .ge o, 3)) (ht : (pc : Int) + o = (tgt : Int)) (kt : b ≤ a → WW p l e R s m args below meth c D cas ad A nL k0 n0 Q tgt lv st M) (kf : ¬ (b ≤ a) → WW p l e R s m args below meth c D cas ad A nL k0 n0 Q (pc + 3) lv st M) : WW p l e R s m args below meth c D cas ad A nL k0 n0 Q pc lv (.int (zI b) :: .int (zI a) :: st) M :=
  fun H locs ls hP hS hl => lv_icmp_ge X.1 X.2.1 hd ht (fun q => kt ((zI_le ⟨hg.2, hg.1⟩).mp q) H locs ls hP hS hl) (fun q => kf (fun z => q ((zI_le ⟨hg.2, hg.1⟩).mpr z)) H locs ls hP hS hl)
theorem R_icmp_gt (X : zX p s m args c cc own nL D cas ad A) {a b : Int} {o : Int} (tgt : Nat) (hg : inR a ∧ inR b) (hd : decode cc pc = .ok (.if_icmp .gt o, 3)) (ht : (pc : Int) + o = (tgt : Int)) (kt : b < a → WW p l e R s m args below meth c D cas ad A nL k0 n0 Q tgt lv st M) (kf : ¬ (b < a) → WW p l e R s m args below meth c D cas ad A nL k0 n0 Q (pc + 3) lv st M) : WW p l e R s m args below meth c D cas ad A nL k0 n0 Q pc lv (.int (zI b) :: .int (zI a) :: st) M :=
  fun H locs ls hP hS hl => lv_icmp_gt X.1 X.2.1 hd ht (fun q => kt ((zI_lt ⟨hg.2, hg.1⟩).mp q) H locs ls hP hS hl) (fun q => kf (fun z => q ((zI_lt ⟨hg.2, hg.1⟩).mpr z)) H locs ls hP hS hl)
theorem R_icmp_le (X : zX p s m args c cc own nL D cas ad A) {a b : Int} {o : Int} (tgt : Nat) (hg : inR a ∧ inR b) (hd : decode cc pc = .ok (.if_icmp .le o, 3)) (ht : (pc : Int) + o = (tgt : Int)) (kt : a ≤ b → WW p l e R s m args below meth c D cas ad A nL k0 n0 Q tgt lv st M) (kf : ¬ (a ≤ b) → WW p l e R s m args below meth c D cas ad A nL k0 n0 Q (pc + 3) lv st M) : WW p l e R s m args below meth c D cas ad A nL k0 n0 Q pc lv (.int (zI b) :: .int (zI a) :: st) M :=
  fun H locs ls hP hS hl => lv_icmp_le X.1 X.2.1 hd ht (fun q => kt ((zI_le hg).mp q) H locs ls hP hS hl) (fun q => kf (fun z => q ((zI_le hg).mpr z)) H locs ls hP hS hl)
theorem R_if_eq (X : zX p s m args c cc own nL D cas ad A) {a : Int} {o : Int} (tgt : Nat) (hg : inR a) (hd : decode cc pc = .ok (.ifCond .eq o, 3)) (ht : (pc : Int) + o = (tgt : Int)) (kt : a = 0 → WW p l e R s m args below meth c D cas ad A nL k0 n0 Q tgt lv st M) (kf : ¬ (a = 0) → WW p l e R s m args below meth c D cas ad A nL k0 n0 Q (pc + 3) lv st M) : WW p l e R s m args below meth c D cas ad A nL k0 n0 Q pc lv (.int (zI a) :: st) M :=
  fun H locs ls hP hS hl => lv_if_eq X.1 X.2.1 hd ht (fun q => kt ((zI_eq0 hg).mp q) H locs ls hP hS hl) (fun q => kf (fun z => q ((zI_eq0 hg).mpr z)) H locs ls hP hS hl)
theorem R_if_ne (X : zX p s m args c cc own nL D cas ad A) {a : Int} {o : Int} (tgt : Nat) (hg : inR a) (hd : decode cc pc = .ok (.ifCond .ne o, 3)) (ht : (pc : Int) + o = (tgt : Int)) (kt : ¬ (a = 0) → WW p l e R s m args below meth c D cas ad A nL k0 n0 Q tgt lv st M) (kf : a = 0 → WW p l e R s m args below meth c D cas ad A nL k0 n0 Q (pc + 3) lv st M) : WW p l e R s m args below meth c D cas ad A nL k0 n0 Q pc lv (.int (zI a) :: st) M :=
  fun H locs ls hP hS hl => lv_if_ne X.1 X.2.1 hd ht (fun q => kt (fun z => q ((zI_eq0 hg).mpr z)) H locs ls hP hS hl) (fun q => kf ((zI_eq0 hg).mp q) H locs ls hP hS hl)
theorem R_if_lt (X : zX p s m args c cc own nL D cas ad A) {a : Int} {o : Int} (tgt : Nat) (hg : inR a) (hd : decode cc pc = .ok (.ifCond .lt o, 3)) (ht : (pc : Int) + o = (tgt : Int)) (kt : a < 0 → WW p l e R s m args below meth c D cas ad A nL k0 n0 Q tgt lv st M) (kf : ¬ (a < 0) → WW p l e R s m args below meth c D cas ad A nL k0 n0 Q (pc + 3) lv st M) : WW p l e R s m args below meth c D cas ad A nL k0 n0 Q pc lv (.int (zI a) :: st) M :=
  fun H locs ls hP hS hl => lv_if_lt X.1 X.2.1 hd ht (fun q => kt ((zI_lt0 hg).mp q) H locs ls hP hS hl) (fun q => kf (fun z => q ((zI_lt0 hg).mpr z)) H locs ls hP hS hl)
theorem R_if_ge (X : zX p s m args c cc own nL D cas ad A) {a : Int} {o : Int} (tgt : Nat) (hg : inR a) (hd : decode cc pc = .ok (.ifCond .ge o, 3)) (ht : (pc : Int) + o = (tgt : Int)) (kt : 0 ≤ a → WW p l e R s m args below meth c D cas ad A nL k0 n0 Q tgt lv st M) (kf : ¬ (0 ≤ a) → WW p l e R s m args below meth c D cas ad A nL k0 n0 Q (pc + 3) lv st M) : WW p l e R s m args below meth c D cas ad A nL k0 n0 Q pc lv (.int (zI a) :: st) M :=
  fun H locs ls hP hS hl => lv_if_ge X.1 X.2.1 hd ht (fun q => kt ((zI_ge0 hg).mp q) H locs ls hP hS hl) (fun q => kf (fun z => q ((zI_ge0 hg).mpr z)) H locs ls hP hS hl)
theorem R_if_gt (X : zX p s m args c cc own nL D cas ad A) {a : Int} {o : Int} (tgt : Nat) (hg : inR a) (hd : decode cc pc = .ok (.ifCond .gt o, 3)) (ht : (pc : Int) + o = (tgt : Int)) (kt : 0 < a → WW p l e R s m args below meth c D cas ad A nL k0 n0 Q tgt lv st M) (kf : ¬ (0 < a) → WW p l e R s m args below meth c D cas ad A nL k0 n0 Q (pc + 3) lv st M) : WW p l e R s m args below meth c D cas ad A nL k0 n0 Q pc lv (.int (zI a) :: st) M :=
  fun H locs ls hP hS hl => lv_if_gt X.1 X.2.1 hd ht (fun q => kt ((zI_gt0 hg).mp q) H locs ls hP hS hl) (fun q => kf (fun z => q ((zI_gt0 hg).mpr z)) H locs ls hP hS hl)
theorem R_if_le (X : zX p s m args c cc own nL D cas ad A) {a : Int} {o : Int} (tgt : Nat) (hg : inR a) (hd : decode cc pc = .ok (.ifCond .le o, 3)) (ht : (pc : Int) + o = (tgt : Int)) (kt : a ≤ 0 → WW p l e R s m args below meth c D cas ad A nL k0 n0 Q tgt lv st M) (kf : ¬ (a ≤ 0) → WW p l e R s m args below meth c D cas ad A nL k0 n0 Q (pc + 3) lv st M) : WW p l e R s m args below meth c D cas ad A nL k0 n0 Q pc lv (.int (zI a) :: st) M :=
  fun H locs ls hP hS hl => lv_if_le X.1 X.2.1 hd ht (fun q => kt ((zI_le0 hg).mp q) H locs ls hP hS hl) (fun q => kf (fun z => q ((zI_le0 hg).mpr z)) H locs ls hP hS hl)
theorem R_tableOut (X : zX p s m args c cc own nL D cas ad A) {dflt lo hi : Int} {offs : Array Int} {len : Nat} {a : Int} (tgt : Nat) (hg : inR a) (hd : decode cc pc = .ok (.tableswitch dflt lo hi offs, len)) (h : a < lo ∨ hi < a) (ht : (pc : Int) + dflt = (tgt : Int)) (k : WW p l e R s m args below meth c D cas ad A nL k0 n0 Q tgt lv st M) : WW p l e R s m args below meth c D cas ad A nL k0 n0 Q pc lv (.int (zI a) :: st) M :=
  fun H locs ls hP hS hl => lv_tableOut X.1 X.2.1 hd (by rw [zI_toInt hg]; exact h) ht (k H locs ls hP hS hl)
theorem R_tableIn (X : zX p s m args c cc own nL D cas ad A) {dflt lo hi : Int} {offs : Array Int} {len : Nat} {a v o : Int} (tgt : Nat) (hv : a = v) (hd : decode cc pc = .ok (.tableswitch dflt lo hi offs, len)) (hg : inR v) (h1 : ¬ v < lo) (h2 : ¬ hi < v) (ho : offs[(v - lo).toNat]? = some o) (ht : (pc : Int) + o = (tgt : Int)) (k : WW p l e R s m args below meth c D cas ad A nL k0 n0 Q tgt lv st M) : WW p l e R s m args below meth c D cas ad A nL k0 n0 Q pc lv (.int (zI a) :: st) M :=
  fun H locs ls hP hS hl => lv_tableIn (off := o) X.1 X.2.1 hd (by rw [hv, zI_toInt hg]; exact h1) (by rw [hv, zI_toInt hg]; exact h2) (by rw [hv, zI_toInt hg]; exact ho) ht (k H locs ls hP hS hl)
theorem zF_int {ci n j : Nat} {k : Nat} {f : Nat → Int} (hn : nfl ci = n) (hj : j < n) (h0 : off ci j = 0) : ((List.range (nfl ci)).map (fun j => if off ci j = 0 then Value.int (zI (f j)) else .ref (ad (k + off ci j))))[j]? = some (.int (zI (f j))) := by
  rw [List.getElem?_map, List.getElem?_range (by omega)]
  simp [h0]
theorem zF_ref {ci n j o : Nat} {k : Nat} {f : Nat → Int} (hn : nfl ci = n) (hj : j < n) (h0 : off ci j = o) (ho : 0 < o) : ((List.range (nfl ci)).map (fun j => if off ci j = 0 then Value.int (zI (f j)) else .ref (ad (k + off ci j))))[j]? = some (.ref (ad (k + o))) := by
  rw [List.getElem?_map, List.getElem?_range (by omega)]
  have : ¬ off ci j = 0 := by omega
  simp [this, h0]
  omega
theorem zF_set {ci n j : Nat} {k : Nat} {f : Nat → Int} {v : Int} (hn : nfl ci = n) (hj : j < n) (h0 : off ci j = 0) : ((List.range (nfl ci)).map (fun j => if off ci j = 0 then Value.int (zI (f j)) else .ref (ad (k + off ci j)))).set j (.int (zI v)) = (List.range (nfl ci)).map (fun i => if off ci i = 0 then Value.int (zI (up f j v i)) else .ref (ad (k + off ci i))) := by
  apply List.ext_getElem?
  intro i
  rw [List.getElem?_set]
  by_cases e : j = i
  · subst e
    rw [if_pos rfl, List.getElem?_map, List.getElem?_range (by omega)]
    simp [h0, up]
    omega
  · rw [if_neg e, List.getElem?_map, List.getElem?_map]
    by_cases hi : i < nfl ci
    · rw [List.getElem?_range hi]
      have e2 : ¬ i = j := fun q => e q.symm
      simp [up, e2]
    · rw [List.getElem?_eq_none (by simp; omega)]
      rfl
theorem R_getI (X : zX p s m args c cc own nL D cas ad A) {k ci j ix N : Nat} {C ref : String} {T : u_T} (hk : k < zN ∧ lay k = (0, ci)) (hc : vwCl[ci]? = some (C, T, N)) (hin : ∀ w ∈ u_ws C T N, w ∈ wsU) (hj : j < N) (hn : nfl ci = N) (h0 : off ci j = 0) (href : (T j).1 = ref) (hlink : Cond.fieldLink own ix ref (T j).2.1 (T j).2.2.1 ∈ wsU) (hd : decode cc pc = .ok (.getfield ix, 3)) (kk : WW p l e R s m args below meth c D cas ad A nL k0 n0 Q (pc + 3) lv (.int (zI (M k j)) :: st) M) : WW p l e R s m args below meth c D cas ad A nL k0 n0 Q pc lv (.ref (ad k) :: st) M := by
  obtain ⟨x1, x2, x3, x4, x5, x6, x7, x8, x9, x10⟩ := X
  intro H locs ls hP hS hl
  have he := zW_get (cas := cas) (ad := ad) (M := M) hk.1
  rw [zC_0 hk.2] at he
  exact va_get x1 x2 x5 hin x4 x6 hP k he hc j hj (x5 _ hlink) (fun x h => by rw [← href]; exact h) (zF_int hn hj h0) hd (kk H locs ls hP hS hl)
theorem R_getR (X : zX p s m args c cc own nL D cas ad A) {k ci j ix N : Nat} {C ref : String} {T : u_T} (o kt : Nat) (hk : k < zN ∧ lay k = (0, ci)) (hc : vwCl[ci]? = some (C, T, N)) (hin : ∀ w ∈ u_ws C T N, w ∈ wsU) (hj : j < N) (hn : nfl ci = N) (h0 : off ci j = o) (ho : 0 < o) (hkt : k + o = kt) (href : (T j).1 = ref) (hlink : Cond.fieldLink own ix ref (T j).2.1 (T j).2.2.1 ∈ wsU) (hd : decode cc pc = .ok (.getfield ix, 3)) (kk : WW p l e R s m args below meth c D cas ad A nL k0 n0 Q (pc + 3) lv (.ref (ad kt) :: st) M) : WW p l e R s m args below meth c D cas ad A nL k0 n0 Q pc lv (.ref (ad k) :: st) M := by
  obtain ⟨x1, x2, x3, x4, x5, x6, x7, x8, x9, x10⟩ := X
  subst hkt
  intro H locs ls hP hS hl
  have he := zW_get (cas := cas) (ad := ad) (M := M) hk.1
  rw [zC_0 hk.2] at he
  exact va_get x1 x2 x5 hin x4 x6 hP k he hc j hj (x5 _ hlink) (fun x h => by rw [← href]; exact h) (zF_ref hn hj h0 ho) hd (kk H locs ls hP hS hl)
theorem R_put (X : zX p s m args c cc own nL D cas ad A) {k ci j ix N : Nat} {C ref : String} {T : u_T} {v : Int} {ty0 : Nat → FieldType} {ty : FieldType} (hk : k < zN ∧ lay k = (0, ci)) (hc : vwCl[ci]? = some (C, T, N)) (hin : ∀ w ∈ u_ws C T N, w ∈ wsU) (hty : ∀ k, k < N → parseFieldDescriptor (T k).2.2.1 = some (ty0 k)) (hnm : ∀ a, a < N → ∀ b, b < N → a ≠ b → (T a).2.1 ≠ (T b).2.1) (hj : j < N) (hn : nfl ci = N) (h0 : off ci j = 0) (href : (T j).1 = ref) (hlink : Cond.fieldLink own ix ref (T j).2.1 (T j).2.2.1 ∈ wsU) (hfin : (T j).2.2.2 = false) (hde : parseFieldDescriptor (T j).2.2.1 = some ty) (hna : narrow ty (.int (zI v)) = .int (zI v)) (hfit : fits ty (.int (zI v)) = true) (hd : decode cc pc = .ok (.putfield ix, 3)) (kk : WW p l e R s m args below meth c D cas ad A nL k0 n0 Q (pc + 3) lv st (wr M k j v)) : WW p l e R s m args below meth c D cas ad A nL k0 n0 Q pc lv (.int (zI v) :: .ref (ad k) :: st) M := by
  obtain ⟨x1, x2, x3, x4, x5, x6, x7, x8, x9, x10⟩ := X
  intro H locs ls hP hS hl
  have he := zW_get (cas := cas) (ad := ad) (M := M) hk.1
  rw [zC_0 hk.2] at he
  refine va_put x1 x2 x5 hin ty0 hty hnm x4 x6 hP (x8 _) hS k he hc j hj (x5 _ hlink) (fun x h => by rw [← href]; exact h) hfin hde hna hfit (by simp; omega) hd (fun H1 locs1 hP1 _ hS1 => kk H1 locs1 ls ?_ hS1 hl)
  rw [zF_set hn hj h0] at hP1
  have h9 := zW_set (cas := cas) (ad := ad) (M := M) hk.1 (zC_0 (cas := cas) (ad := ad) (f := up (M k) j v) hk.2).symm
  rw [h9] at hP1
  exact hP1
theorem z_nI (v : Int) : narrow .int (.int (zI v)) = .int (zI v) := rfl
theorem z_fI (v : Int) : fits .int (.int (zI v)) = true := rfl
theorem z_nZ {v : Int} (h : v = 0 ∨ v = 1) : narrow .boolean (.int (zI v)) = .int (zI v) := by rcases h with rfl | rfl <;> decide +kernel
theorem z_fZ {v : Int} (h : v = 0 ∨ v = 1) : fits .boolean (.int (zI v)) = true := by rcases h with rfl | rfl <;> decide +kernel
theorem z_vZ {v : Int} (h : v = 0 ∨ v = 1) : vp_nar .boolean (zI v) = zI v := by rcases h with rfl | rfl <;> decide +kernel
theorem z_vC {v : Int} (h : 0 ≤ v ∧ v < 65536) : vp_nar .char (zI v) = zI v := by
  rw [vp_nar_char]
  have e : (zI v).toUInt32.toUInt16.toUInt32.toInt32 = ((zI v).toUInt32 % 65536).toInt32 := by
    congr 1
  rw [e, zI_c2 ⟨by omega, by omega⟩]
  congr 1
  omega
theorem R_iald (X : zX p s m args c cc own nL D cas ad A) {k n : Nat} {i : Int} (hk : k < zN ∧ lay k = (1, n)) (hi : 0 ≤ i ∧ i < (n : Int)) (hd : decode cc pc = .ok (.iaload, 1)) (kk : WW p l e R s m args below meth c D cas ad A nL k0 n0 Q (pc + 1) lv (.int (zI (M k i.toNat)) :: st) M) : WW p l e R s m args below meth c D cas ad A nL k0 n0 Q pc lv (.int (zI i) :: .ref (ad k) :: st) M := by
  obtain ⟨x1, x2, x3, x4, x5, x6, x7, x8, x9, x10⟩ := X
  intro H locs ls hP hS hl
  have he := zW_get (cas := cas) (ad := ad) (M := M) hk.1
  rw [zC_1 hk.2] at he
  have hs : n ≤ 2147483647 := by have := lay_small k hk.1; rw [hk.2] at this; dsimp at this; omega
  refine va_iald x1 x2 x6 hP k 0 he rfl (zI_vp hi hs) hd ?_
  rw [zI_cl hi hs]
  exact kk H locs ls hP hS hl
theorem R_zald (X : zX p s m args c cc own nL D cas ad A) {k n : Nat} {i : Int} (hk : k < zN ∧ lay k = (2, n)) (hi : 0 ≤ i ∧ i < (n : Int)) (hd : decode cc pc = .ok (.baload, 1)) (kk : WW p l e R s m args below meth c D cas ad A nL k0 n0 Q (pc + 1) lv (.int (zI (M k i.toNat)) :: st) M) : WW p l e R s m args below meth c D cas ad A nL k0 n0 Q pc lv (.int (zI i) :: .ref (ad k) :: st) M := by
  obtain ⟨x1, x2, x3, x4, x5, x6, x7, x8, x9, x10⟩ := X
  intro H locs ls hP hS hl
  have he := zW_get (cas := cas) (ad := ad) (M := M) hk.1
  rw [zC_2 hk.2] at he
  have hs : n ≤ 2147483647 := by have := lay_small k hk.1; rw [hk.2] at this; dsimp at this; omega
  refine va_zald x1 x2 x6 hP k 1 he rfl (zI_vp hi hs) hd ?_
  rw [zI_cl hi hs]
  exact kk H locs ls hP hS hl
theorem R_cald (X : zX p s m args c cc own nL D cas ad A) {k n : Nat} {i : Int} (hk : k < zN ∧ lay k = (3, n)) (hi : 0 ≤ i ∧ i < (n : Int)) (hd : decode cc pc = .ok (.caload, 1)) (kk : WW p l e R s m args below meth c D cas ad A nL k0 n0 Q (pc + 1) lv (.int (zI (M k i.toNat)) :: st) M) : WW p l e R s m args below meth c D cas ad A nL k0 n0 Q pc lv (.int (zI i) :: .ref (ad k) :: st) M := by
  obtain ⟨x1, x2, x3, x4, x5, x6, x7, x8, x9, x10⟩ := X
  intro H locs ls hP hS hl
  have he := zW_get (cas := cas) (ad := ad) (M := M) hk.1
  rw [zC_3 hk.2] at he
  have hs : n ≤ 2147483647 := by have := lay_small k hk.1; rw [hk.2] at this; dsimp at this; omega
  refine va_cald x1 x2 x6 hP k 2 he rfl (zI_vp hi hs) hd ?_
  rw [zI_cl hi hs]
  exact kk H locs ls hP hS hl
theorem R_aald (X : zX p s m args c cc own nL D cas ad A) {k n : Nat} {i : Int} (kt : Nat) (hk : k < zN ∧ lay k = (4, n)) (hi : 0 ≤ i ∧ i < (n : Int)) (hkt : k + 1 + 29 * i.toNat = kt) (hd : decode cc pc = .ok (.aaload, 1)) (kk : WW p l e R s m args below meth c D cas ad A nL k0 n0 Q (pc + 1) lv (.ref (ad kt) :: st) M) : WW p l e R s m args below meth c D cas ad A nL k0 n0 Q pc lv (.int (zI i) :: .ref (ad k) :: st) M := by
  obtain ⟨x1, x2, x3, x4, x5, x6, x7, x8, x9, x10⟩ := X
  intro H locs ls hP hS hl
  have he := zW_get (cas := cas) (ad := ad) (M := M) hk.1
  rw [zC_4 hk.2] at he
  have hs : n ≤ 2147483647 := by have := lay_small k hk.1; rw [hk.2] at this; dsimp at this; omega
  refine va_aldq x1 x2 x6 hP k 3 he rfl (zI_vp hi hs) hd ?_
  rw [zI_cl hi hs, hkt]
  exact kk H locs ls hP hS hl
theorem z_upd {f : Nat → Int} {i : Nat} {v : Int} : upd (fun j => zI (f j)) i (zI v) = fun j => zI (up f i v j) := by
  funext j
  by_cases e : j = i
  · subst e; simp [upd, up]
  · simp [upd, up, e]
theorem R_iast (X : zX p s m args c cc own nL D cas ad A) {k n : Nat} {i v : Int} (hk : k < zN ∧ lay k = (1, n)) (hi : 0 ≤ i ∧ i < (n : Int)) (hd : decode cc pc = .ok (.iastore, 1)) (kk : WW p l e R s m args below meth c D cas ad A nL k0 n0 Q (pc + 1) lv st (wr M k i.toNat v)) : WW p l e R s m args below meth c D cas ad A nL k0 n0 Q pc lv (.int (zI v) :: .int (zI i) :: .ref (ad k) :: st) M := by
  obtain ⟨x1, x2, x3, x4, x5, x6, x7, x8, x9, x10⟩ := X
  intro H locs ls hP hS hl
  have he := zW_get (cas := cas) (ad := ad) (M := M) hk.1
  rw [zC_1 hk.2] at he
  have hs : n ≤ 2147483647 := by have := lay_small k hk.1; rw [hk.2] at this; dsimp at this; omega
  refine va_iast x1 x2 x6 hP (x8 _) hS k 0 he rfl (zI_vp hi hs) hd (fun H1 locs1 hP1 _ hS1 => kk H1 locs1 ls ?_ hS1 hl)
  rw [zI_cl hi hs, z_upd] at hP1
  have h9 := zW_set (cas := cas) (ad := ad) (M := M) hk.1 (zC_1 (cas := cas) (ad := ad) (f := up (M k) i.toNat v) hk.2).symm
  rw [h9] at hP1
  exact hP1
theorem R_zast (X : zX p s m args c cc own nL D cas ad A) {k n : Nat} {i v : Int} (hk : k < zN ∧ lay k = (2, n)) (hi : 0 ≤ i ∧ i < (n : Int)) (hv : v = 0 ∨ v = 1) (hd : decode cc pc = .ok (.bastore, 1)) (kk : WW p l e R s m args below meth c D cas ad A nL k0 n0 Q (pc + 1) lv st (wr M k i.toNat v)) : WW p l e R s m args below meth c D cas ad A nL k0 n0 Q pc lv (.int (zI v) :: .int (zI i) :: .ref (ad k) :: st) M := by
  obtain ⟨x1, x2, x3, x4, x5, x6, x7, x8, x9, x10⟩ := X
  intro H locs ls hP hS hl
  have he := zW_get (cas := cas) (ad := ad) (M := M) hk.1
  rw [zC_2 hk.2] at he
  have hs : n ≤ 2147483647 := by have := lay_small k hk.1; rw [hk.2] at this; dsimp at this; omega
  refine va_zast x1 x2 x6 hP (x8 _) hS k 1 he rfl (zI_vp hi hs) hd (fun H1 locs1 hP1 _ hS1 => kk H1 locs1 ls ?_ hS1 hl)
  rw [zI_cl hi hs, z_vZ hv, z_upd] at hP1
  have h9 := zW_set (cas := cas) (ad := ad) (M := M) hk.1 (zC_2 (cas := cas) (ad := ad) (f := up (M k) i.toNat v) hk.2).symm
  rw [h9] at hP1
  exact hP1
theorem R_cast (X : zX p s m args c cc own nL D cas ad A) {k n : Nat} {i v : Int} (hk : k < zN ∧ lay k = (3, n)) (hi : 0 ≤ i ∧ i < (n : Int)) (hv : 0 ≤ v ∧ v < 65536) (hd : decode cc pc = .ok (.castore, 1)) (kk : WW p l e R s m args below meth c D cas ad A nL k0 n0 Q (pc + 1) lv st (wr M k i.toNat v)) : WW p l e R s m args below meth c D cas ad A nL k0 n0 Q pc lv (.int (zI v) :: .int (zI i) :: .ref (ad k) :: st) M := by
  obtain ⟨x1, x2, x3, x4, x5, x6, x7, x8, x9, x10⟩ := X
  intro H locs ls hP hS hl
  have he := zW_get (cas := cas) (ad := ad) (M := M) hk.1
  rw [zC_3 hk.2] at he
  have hs : n ≤ 2147483647 := by have := lay_small k hk.1; rw [hk.2] at this; dsimp at this; omega
  refine va_cast x1 x2 x6 hP (x8 _) hS k 2 he rfl (zI_vp hi hs) hd (fun H1 locs1 hP1 _ hS1 => kk H1 locs1 ls ?_ hS1 hl)
  rw [zI_cl hi hs, z_vC hv, z_upd] at hP1
  have h9 := zW_set (cas := cas) (ad := ad) (M := M) hk.1 (zC_3 (cas := cas) (ad := ad) (f := up (M k) i.toNat v) hk.2).symm
  rw [h9] at hP1
  exact hP1
theorem R_alen (X : zX p s m args c cc own nL D cas ad A) {k n : Nat} (hk : k < zN ∧ lay k = (1, n)) (hd : decode cc pc = .ok (.arraylength, 1)) (kk : WW p l e R s m args below meth c D cas ad A nL k0 n0 Q (pc + 1) lv (.int (zI (n : Int)) :: st) M) : WW p l e R s m args below meth c D cas ad A nL k0 n0 Q pc lv (.ref (ad k) :: st) M := by
  obtain ⟨x1, x2, x3, x4, x5, x6, x7, x8, x9, x10⟩ := X
  intro H locs ls hP hS hl
  have he := zW_get (cas := cas) (ad := ad) (M := M) hk.1
  rw [zC_1 hk.2] at he
  exact va_alen x1 x2 x6 hP k 0 he rfl (zI_ofNat n) hd (kk H locs ls hP hS hl)
theorem z_cpy {f g : Nat → Int} {sp dp n : Nat} : va_cpy (fun j => zI (f j)) (fun j => zI (g j)) sp dp n = fun j => zI (cpf f g sp dp n j) := by
  funext j
  unfold va_cpy cpf
  by_cases e : dp ≤ j ∧ j < dp + n
  · rw [if_pos e, if_pos e]
  · rw [if_neg e, if_neg e]
theorem R_copy (X : zX p s m args c cc own nL D cas ad A) {k1 k2 n1 n2 ix : Nat} {sp dp n : Int} (hk1 : k1 < zN ∧ lay k1 = (1, n1)) (hk2 : k2 < zN ∧ lay k2 = (1, n2)) (hg : (0 ≤ sp ∧ 0 ≤ dp ∧ 0 ≤ n) ∧ sp + n ≤ (n1 : Int) ∧ dp + n ≤ (n2 : Int)) (hlink : Cond.methodLink own ix arraycopyName ∈ wsU) (hnat : Cond.native arraycopyName ∈ wsU) (hstat : Cond.static arraycopyName ∈ wsU) (hini : Cond.initialized "java/lang/System" ∈ wsU) (hframes : 1 ≤ R.frames) (hlocals : (st.map fun v => v.category).sum + (nativeFrameWords "java/lang/System" "arraycopy" 5 + 11) ≤ R.locals) (hd : decode cc pc = .ok (.invokestatic ix, 3)) (kk : WW p l e R s m args below meth c D cas ad A nL k0 n0 Q (pc + 3) lv st (cpM M k1 sp k2 dp n)) : WW p l e R s m args below meth c D cas ad A nL k0 n0 Q pc lv (.int (zI n) :: .int (zI dp) :: .ref (ad k2) :: .int (zI sp) :: .ref (ad k1) :: st) M := by
  obtain ⟨x1, x2, x3, x4, x5, x6, x7, x8, x9, x10⟩ := X
  intro H locs ls hP hS hl
  have he1 := zW_get (cas := cas) (ad := ad) (M := M) hk1.1
  rw [zC_1 hk1.2] at he1
  have he2 := zW_get (cas := cas) (ad := ad) (M := M) hk2.1
  rw [zC_1 hk2.2] at he2
  have hs1 : n1 ≤ 6097 := by have := lay_small k1 hk1.1; rw [hk1.2] at this; exact this
  have hs2 : n2 ≤ 6097 := by have := lay_small k2 hk2.1; rw [hk2.2] at this; exact this
  have r1 : inR sp := ⟨by omega, by omega⟩
  have r2 : inR dp := ⟨by omega, by omega⟩
  have r3 : inR n := ⟨by omega, by omega⟩
  refine va_copyi x1 x2 (x3.trans hl.1.symm) x4 (x5 _ hlink) (x5 _ hnat) (x5 _ hstat) (x5 _ hini) x6 hP (x8 _) hS k1 k2 0 0 he1 he2 rfl rfl rfl (by rw [zI_lt0 r1]; omega) (by rw [zI_lt0 r2]; omega) (by rw [zI_lt0 r3]; omega) (by rw [zI_clamp r1, zI_clamp r3]; omega) (by rw [zI_clamp r2, zI_clamp r3]; omega) (fun i _ => rfl) hframes hlocals hd (fun H1 locs1 hP1 _ hS1 => kk H1 locs1 ls ?_ hS1 hl)
  rw [zI_clamp r1, zI_clamp r2, zI_clamp r3, z_cpy] at hP1
  have h9 := zW_set (cas := cas) (ad := ad) (M := M) hk2.1 (zC_1 (cas := cas) (ad := ad) (f := cpf (M k1) (M k2) sp.toNat dp.toNat n.toNat) hk2.2).symm
  rw [h9] at hP1
  exact hP1
theorem z_ite {P P' : Prop} {h : Decidable P} {h' : Decidable P'} (a b : Int) (e : P ↔ P') : (if P then zI a else zI b) = zI (if P' then a else b) := by
  by_cases q : P
  · rw [if_pos q, if_pos (e.mp q)]
  · rw [if_neg q, if_neg (fun z => q (e.mpr z))]
theorem R_mmin (X : zX p s m args c cc own nL D cas ad A) {ix : Nat} {a b : Int} (hg : inR a ∧ inR b) (hlink : Cond.methodLink own ix Lib.Math.min.name ∈ wsU) (hframes : 1 ≤ R.frames) (hlocals : (st.map fun v => v.category).sum + 13 ≤ R.locals) (hc : k0 ≤ R.cells ∧ n0 ≤ R.slots) (hd : decode cc pc = .ok (.invokestatic ix, 3)) (hw : Cond.static Lib.Math.min.name ∈ wsU ∧ Cond.initialized "java/lang/Math" ∈ wsU ∧ Cond.code Lib.Math.min.name Lib.Math.min.code 2 (some .int) ∈ wsU) (kk : WW p l e R s m args below meth c D cas ad A nL k0 n0 Q (pc + 3) lv (.int (zI (imin a b)) :: st) M) : WW p l e R s m args below meth c D cas ad A nL k0 n0 Q pc lv (.int (zI b) :: .int (zI a) :: st) M := by
  obtain ⟨x1, x2, x3, x4, x5, x6, x7, x8, x9, x10⟩ := X
  intro H locs ls hP hS hl
  refine va_mmin x1 x2 (x3.trans hl.1.symm) x4 (x5 _ hlink) (x5 _ hw.1) (x5 _ hw.2.1) (x5 _ hw.2.2) hframes hlocals hc.1 hc.2 hd ?_
  rw [z_ite b a (zI_lt ⟨hg.2, hg.1⟩)]
  exact kk H locs ls hP hS hl
theorem R_mmax (X : zX p s m args c cc own nL D cas ad A) {ix : Nat} {a b : Int} (hg : inR a ∧ inR b) (hlink : Cond.methodLink own ix Lib.Math.max.name ∈ wsU) (hframes : 1 ≤ R.frames) (hlocals : (st.map fun v => v.category).sum + 13 ≤ R.locals) (hc : k0 ≤ R.cells ∧ n0 ≤ R.slots) (hd : decode cc pc = .ok (.invokestatic ix, 3)) (hw : Cond.static Lib.Math.max.name ∈ wsU ∧ Cond.initialized "java/lang/Math" ∈ wsU ∧ Cond.code Lib.Math.max.name Lib.Math.max.code 2 (some .int) ∈ wsU) (kk : WW p l e R s m args below meth c D cas ad A nL k0 n0 Q (pc + 3) lv (.int (zI (imax a b)) :: st) M) : WW p l e R s m args below meth c D cas ad A nL k0 n0 Q pc lv (.int (zI b) :: .int (zI a) :: st) M := by
  obtain ⟨x1, x2, x3, x4, x5, x6, x7, x8, x9, x10⟩ := X
  intro H locs ls hP hS hl
  refine va_mmax x1 x2 (x3.trans hl.1.symm) x4 (x5 _ hlink) (x5 _ hw.1) (x5 _ hw.2.1) (x5 _ hw.2.2) hframes hlocals hc.1 hc.2 hd ?_
  rw [z_ite b a (zI_lt hg)]
  exact kk H locs ls hP hS hl
theorem R_mabs (X : zX p s m args c cc own nL D cas ad A) {ix : Nat} {a : Int} (hg : inR a) (hlink : Cond.methodLink own ix Lib.Math.abs.name ∈ wsU) (hframes : 1 ≤ R.frames) (hlocals : (st.map fun v => v.category).sum + 13 ≤ R.locals) (hc : k0 ≤ R.cells ∧ n0 ≤ R.slots) (hd : decode cc pc = .ok (.invokestatic ix, 3)) (hw : Cond.static Lib.Math.abs.name ∈ wsU ∧ Cond.initialized "java/lang/Math" ∈ wsU ∧ Cond.code Lib.Math.abs.name Lib.Math.abs.code 1 (some .int) ∈ wsU) (kk : WW p l e R s m args below meth c D cas ad A nL k0 n0 Q (pc + 3) lv (.int (zI (iabs a)) :: st) M) : WW p l e R s m args below meth c D cas ad A nL k0 n0 Q pc lv (.int (zI a) :: st) M := by
  obtain ⟨x1, x2, x3, x4, x5, x6, x7, x8, x9, x10⟩ := X
  intro H locs ls hP hS hl
  refine va_mabs x1 x2 (x3.trans hl.1.symm) x4 (x5 _ hlink) (x5 _ hw.1) (x5 _ hw.2.1) (x5 _ hw.2.2) hframes hlocals hc.1 hc.2 hd ?_
  rw [zI_0, zI_sub, z_ite a (0 - a) (zI_le ⟨zI_r0, hg⟩)]
  exact kk H locs ls hP hS hl
theorem R_gets (X : zX p s m args c cc own nL D cas ad A) {ix N : Nat} {nm : String} {f : Nat → Int} (hZ : zS1 nm N f A s s.heap) (hlink : Cond.fieldLink own ix "ShardTrails" nm "[I" ∈ wsU) (hd : decode cc pc = .ok (.getstatic ix, 3)) (kk : ∀ t : Nat, va_T .int t N (fun j => .int (zI (f j))) A s s.heap → WW p l e R s m args below meth c D cas ad A nL k0 n0 Q (pc + 3) lv (.ref t :: st) M) : WW p l e R s m args below meth c D cas ad A nL k0 n0 Q pc lv st M := by
  obtain ⟨x1, x2, x3, x4, x5, x6, x7, x8, x9, x10⟩ := X
  obtain ⟨t, h1, h2, -⟩ := hZ
  intro H locs ls hP hS hl
  exact va_gets x1 x2 h1 hS x4 (x5 _ hlink) (fun _ h => h) hd (kk t h2 H locs ls hP hS hl)
theorem R_tald (X : zX p s m args c cc own nL D cas ad A) {t N : Nat} {f : Nat → Int} {i : Int} (hT : va_T .int t N (fun j => .int (zI (f j))) A s s.heap) (hN : N ≤ 2147483647) (hi : 0 ≤ i ∧ i < (N : Int)) (hd : decode cc pc = .ok (.iaload, 1)) (kk : WW p l e R s m args below meth c D cas ad A nL k0 n0 Q (pc + 1) lv (.int (zI (f i.toNat)) :: st) M) : WW p l e R s m args below meth c D cas ad A nL k0 n0 Q pc lv (.int (zI i) :: .ref t :: st) M := by
  obtain ⟨x1, x2, x3, x4, x5, x6, x7, x8, x9, x10⟩ := X
  intro H locs ls hP hS hl
  exact va_ti x1 x2 hT hS (zI_vp hi hN) (by rw [zI_cl hi hN]) hd (kk H locs ls hP hS hl)
theorem R_istore_nX (X : zX p s m args c cc own nL D cas ad A) {k : Fin 4} {i : Nat} {x y : Int} {lv' : List (Nat × Value)} (ex : x = y) (hd : decode cc pc = .ok (.istore_n k, 1)) (hi : (k : Nat) = i) (hn : i < nL) (hl' : (i, Value.int (zI x)) :: lv.filter (fun q => !(q.1 == i) && !(q.1 + 1 == i && q.2.category == 2)) = lv') (kk : WW p l e R s m args below meth c D cas ad A nL k0 n0 Q (pc + 1) lv' st M) : WW p l e R s m args below meth c D cas ad A nL k0 n0 Q pc lv (.int (zI y) :: st) M := by
  subst ex
  exact R_istore_n X hd hi hn hl' kk
theorem R_istoreX (X : zX p s m args c cc own nL D cas ad A) {i : Nat} {x y : Int} {lv' : List (Nat × Value)} (ex : x = y) (hd : decode cc pc = .ok (.istore i, 2)) (hn : i < nL) (hl' : (i, Value.int (zI x)) :: lv.filter (fun q => !(q.1 == i) && !(q.1 + 1 == i && q.2.category == 2)) = lv') (kk : WW p l e R s m args below meth c D cas ad A nL k0 n0 Q (pc + 2) lv' st M) : WW p l e R s m args below meth c D cas ad A nL k0 n0 Q pc lv (.int (zI y) :: st) M := by
  subst ex
  exact R_istore X hd hn hl' kk
theorem R_mem {M1 M2 : Mem} (ex : M1 = M2) (kk : WW p l e R s m args below meth c D cas ad A nL k0 n0 Q pc lv st M1) : WW p l e R s m args below meth c D cas ad A nL k0 n0 Q pc lv st M2 := ex ▸ kk
theorem R_sld (X : zX p s m args c cc own nL D cas ad A) {b L : Nat} {xs : Nat → Int} (hX : va_X b L (fun j => zI (xs j)) s s.heap) (hbl : b < s.heap.size) (hbA : ¬ A b) {i : Int} (hi : 0 ≤ i ∧ i < (L : Int)) (hL : L ≤ 2147483647) (hd : decode cc pc = .ok (.iaload, 1)) (kk : WW p l e R s m args below meth c D cas ad A nL k0 n0 Q (pc + 1) lv (.int (zI (xs i.toNat)) :: st) M) : WW p l e R s m args below meth c D cas ad A nL k0 n0 Q pc lv (.int (zI i) :: .ref b :: st) M := by
  obtain ⟨x1, x2, x3, x4, x5, x6, x7, x8, x9, x10⟩ := X
  intro H locs ls hP hS hl
  refine va_sld x1 x2 hX hbl hbA hS (zI_vp hi hL) hd ?_
  rw [zI_cl hi hL]
  exact kk H locs ls hP hS hl
theorem R_slen (X : zX p s m args c cc own nL D cas ad A) {b L : Nat} {xs : Nat → Int} (hX : va_X b L (fun j => zI (xs j)) s s.heap) (hbl : b < s.heap.size) (hbA : ¬ A b) (hd : decode cc pc = .ok (.arraylength, 1)) (kk : WW p l e R s m args below meth c D cas ad A nL k0 n0 Q (pc + 1) lv (.int (zI (L : Int)) :: st) M) : WW p l e R s m args below meth c D cas ad A nL k0 n0 Q pc lv (.ref b :: st) M := by
  obtain ⟨x1, x2, x3, x4, x5, x6, x7, x8, x9, x10⟩ := X
  intro H locs ls hP hS hl
  refine va_slen x1 x2 hX hbl hbA hS hd ?_
  rw [zI_ofNat]
  exact kk H locs ls hP hS hl
end ZR
end
section
/-! contracts: a method over the memory; its calls, its end -/
def zGP (D : va_G) (cas : Nat → ClassId) (ad : Nat → Nat) (M : Mem) (U : State) : Prop :=
  va_P D vwCl (zW cas ad M) U.heap ∧ va_K D vwCl (zT cas) U ∧ zNW U ∧ zST (zA ad) U U.heap
theorem zGP.moved {D : va_G} {cas : Nat → ClassId} {ad : Nat → Nat} {M : Mem} {u U : State} (hh : U.heap = u.heap) (hW : u.WarmedH U.vm) (h : zGP D cas ad M u) : zGP D cas ad M U := by
  obtain ⟨h1, h2, h3, h4⟩ := h
  exact ⟨by rw [hh]; exact h1, va_K.moved hW.alike h2, h3.warm hW, by rw [hh]; exact h4.moved hW.alike⟩
abbrev zws (y : MethodName) (b : ByteArray) (maxL : Nat) (ret : Option FieldType) : List Cond := .code y b maxL ret :: wsU
abbrev zrm (fr lo : Nat) : Room := { frames := fr, cells := 0, slots := 0, locals := lo }
abbrev zQi (D : va_G) (cas : Nat → ClassId) (ad : Nat → Nat) (r : Int) (M' : Mem) : Array Value → State → Outcome → State → Prop := va_Qi (fun (r2 : Int32) (_ : Unit) => r2 = zI r) (fun _ t => zGP D cas ad M' t) (zA ad)
abbrev zQv (D : va_G) (cas : Nat → ClassId) (ad : Nat → Nat) (M' : Mem) : Array Value → State → Outcome → State → Prop := va_Qv (fun (_ : Unit) => True) (fun _ t => zGP D cas ad M' t) (zA ad)
def zMi (l : Launch) (D : va_G) (cas : Nat → ClassId) (ad : Nat → Nat) (y : MethodName) (b : ByteArray) (maxL : Nat) (ret : Option FieldType) (fr lo : Nat) (av : List Value) (M : Mem) (r : Int) (M' : Mem) : Prop :=
  Met l y (zws y b maxL ret) (zrm fr lo) (va_Pc av (fun U => zGP D cas ad M U)) (zQi D cas ad r M') 0 0 (zA ad)
def zMv (l : Launch) (D : va_G) (cas : Nat → ClassId) (ad : Nat → Nat) (y : MethodName) (b : ByteArray) (maxL : Nat) (fr lo : Nat) (av : List Value) (M : Mem) (M' : Mem) : Prop :=
  Met l y (zws y b maxL none) (zrm fr lo) (va_Pc av (fun U => zGP D cas ad M U)) (zQv D cas ad M') 0 0 (zA ad)
theorem zblind {D : va_G} {cas : Nat → ClassId} {ad : Nat → Nat} {M : Mem} {av : List Value} : FrameBlind (va_Pc av (fun U => zGP D cas ad M U)) := by
  intro a U g mk ⟨h0, h1, h2, h3, h4⟩
  refine ⟨h0, h1, va_K.moved (u := U) (U := U.calling g mk a) (Vm.Alike.refl U.vm) h2, ⟨fun q hq => va_Nw.same rfl rfl (h3.1 q hq), fun q hq => va_Nw.same rfl rfl (h3.2.1 q hq), va_Nw.same rfl rfl h3.2.2.1, va_AO.moved (u := U) (U := U.calling g mk a) (Vm.Alike.refl U.vm) h3.2.2.2⟩, h4.moved (u := U) (U := U.calling g mk a) (Vm.Alike.refl U.vm)⟩
theorem zbody {l : Launch} {D : va_G} {cas : Nat → ClassId} {ad : Nat → Nat} {y : MethodName} {b : ByteArray} {maxL : Nat} {ret : Option FieldType} {fr lo : Nat} {av : List Value} {M : Mem} {Qc : Array Value → State → Outcome → State → Prop} (hy : plainName y.cls = true) (hn : (lg_sl av).length ≤ maxL) (hi : zInj ad)
    (body : ∀ (p : Program) (e : Env) (s : State) (m : MethodId) (args : Array Value) (below : List Frame) (meth : Method) (c : Code), zX p s m args c b y.cls maxL D cas ad (zA ad) → meth.sig.returnType = ret → meth.locks = false → WW p l e (zrm fr lo) s m args below meth c D cas ad (zA ad) maxL 0 0 (MQ below Qc args s 0 0 (zA ad)) 0 (lv_args 0 av) [] M) :
    Met l y (zws y b maxL ret) (zrm fr lo) (va_Pc av (fun U => zGP D cas ad M U)) Qc 0 0 (zA ad) := by
  refine Met.ofW (cc := b) (maxL := maxL) (ret := ret) hy rfl ?_
  intro p e s m args below meth c s₁ B hml hv
  obtain ⟨rfl, hP, hK, hN, hST⟩ := hv
  have hts := atoms_spec (ws := zws y b maxL ret) B.pre
  have hX : zX p s m av.toArray c b y.cls maxL D cas ad (zA ad) := ⟨B.exec, B.bytes, hml, findClass_of_methodNamed B.named, fun w h => hts w (List.mem_cons_of_mem _ h), hK, hN, zD hi (fun _ h => h), fun _ h => h, hST⟩
  have hl := lv_entry av (n := maxL) hn
  rw [lg_entry_eq]
  exact body p e s m av.toArray below meth c hX B.returns B.notSynchronized s.heap [] _ hP va_S.rf hl
section ZE
variable {p : Program} {l : Launch} {e : Env} {R : Room} {s : State} {m : MethodId} {args : Array Value} {below : List Frame} {meth : Method} {c : Code} {D : va_G} {cas : Nat → ClassId} {ad : Nat → Nat} {nL : Nat}
variable {cc : ByteArray} {own : String} {pc : Nat} {lv : List (Nat × Value)} {M M' : Mem}
theorem zend {A : Nat → Prop} {H : Heap} {locs : List Loc} (X : zX p s m args c cc own nL D cas ad A) (hP : va_P D vwCl (zW cas ad M) H) (hS : va_S A s.heap H locs) {t : State} (ht : t.heap = H) (hW : s.WarmedH t.vm) : zGP D cas ad M t := by
  obtain ⟨x1, x2, x3, x4, x5, x6, x7, x8, x9, x10⟩ := X
  refine ⟨by rw [ht]; exact hP, va_K.moved hW.alike x6, x7.warm hW, ?_⟩
  rw [ht]
  exact ((x10.moved hW.alike).kept (fun a h1 h2 => hS.2.1 a h1 h2)).narrow x9
theorem R_iret (X : zX p s m args c cc own nL D cas ad (zA ad)) {v r : Int} (hr : meth.sig.returnType = some .int) (hk : meth.locks = false) (hd : decode cc pc = .ok (.ireturn, 1)) (hf : (some (v, M) : Option (Int × Mem)) = some (r, M')) : WW p l e R s m args below meth c D cas ad (zA ad) nL 0 0 (MQ below (zQi D cas ad r M') args s 0 0 (zA ad)) pc lv [.int (zI v)] M := by
  cases hf
  intro H locs ls hP hS hl
  exact W.iret X.1 X.2.1 hr (fun t ht hW => ⟨⟨zI v, (), rfl, rfl, zend X hP hS ht hW⟩, hS.F ht⟩) hS.2.2 hd hk
theorem R_zret (X : zX p s m args c cc own nL D cas ad (zA ad)) {v r : Int} (hb : v = 0 ∨ v = 1) (hr : meth.sig.returnType = some .boolean) (hk : meth.locks = false) (hd : decode cc pc = .ok (.ireturn, 1)) (hf : (some (v, M) : Option (Int × Mem)) = some (r, M')) : WW p l e R s m args below meth c D cas ad (zA ad) nL 0 0 (MQ below (zQi D cas ad r M') args s 0 0 (zA ad)) pc lv [.int (zI v)] M := by
  cases hf
  intro H locs ls hP hS hl
  exact W.zret X.1 X.2.1 hr (z_nZ hb) (fun t ht hW => ⟨⟨zI v, (), rfl, rfl, zend X hP hS ht hW⟩, hS.F ht⟩) hS.2.2 hd hk
theorem R_vret (X : zX p s m args c cc own nL D cas ad (zA ad)) {v r : Int} (hr : meth.sig.returnType = none) (hk : meth.locks = false) (hd : decode cc pc = .ok (.return_, 1)) (hf : (some (v, M) : Option (Int × Mem)) = some (r, M')) : WW p l e R s m args below meth c D cas ad (zA ad) nL 0 0 (MQ below (zQv D cas ad M') args s 0 0 (zA ad)) pc lv [] M := by
  cases hf
  intro H locs ls hP hS hl
  exact W.vret X.1 X.2.1 hr (fun t ht hW => ⟨⟨(), rfl, trivial, zend X hP hS ht hW⟩, hS.F ht⟩) hS.2.2 hd hk
end ZE
section ZC
variable {p : Program} {l : Launch} {e : Env} {R : Room} {s : State} {m : MethodId} {args : Array Value} {below : List Frame} {meth : Method} {c : Code} {D : va_G} {cas : Nat → ClassId} {ad : Nat → Nat} {A : Nat → Prop} {nL k0 n0 : Nat} {Q : State → Prop}
variable {cc : ByteArray} {own : String} {pc : Nat} {lv : List (Nat × Value)} {st rest : List Value} {M M' : Mem}
theorem zpc (X : zX p s m args c cc own nL D cas ad A) {H : Heap} {locs : List Loc} (hP : va_P D vwCl (zW cas ad M) H) (hS : va_S A s.heap H locs) {av : List Value} {U : State} (hU : U.heap = H) (hW : s.WarmedH U.vm) : va_Pc av (fun U => zGP D cas ad M U) av.toArray U := ⟨rfl, zend X hP hS hU hW⟩
theorem zgood {y : MethodName} {b : ByteArray} {maxL : Nat} {ret : Option FieldType} (hcode : Cond.code y b maxL ret ∈ wsU) : GoodIn wsU (zws y b maxL ret) := by
  intro w hw
  rcases List.mem_cons.mp hw with rfl | h
  · exact wsU_good _ hcode
  · exact wsU_good _ h
/-- the words of a method that calls ask for -/
def zyV (y : MethodName) (b : ByteArray) (maxL n : Nat) (ret : Option FieldType) : Prop := Cond.code y b maxL ret ∈ wsU ∧ Cond.instanceMethod y ∈ wsU ∧ Cond.selects y.cls y y ∈ wsU ∧ Cond.initialized y.cls ∈ wsU ∧ (y.cls ≠ "java/lang/invoke/MethodHandle" ∧ y.cls ≠ "java/lang/invoke/VarHandle" ∧ (parseMethodDescriptor y.desc).map (fun d => d.parameters.length) = some n)
def zyS (y : MethodName) (b : ByteArray) (maxL n : Nat) (ret : Option FieldType) : Prop := Cond.code y b maxL ret ∈ wsU ∧ Cond.static y ∈ wsU ∧ Cond.initialized y.cls ∈ wsU ∧ (y.cls ≠ "java/lang/invoke/MethodHandle" ∧ y.cls ≠ "java/lang/invoke/VarHandle" ∧ (parseMethodDescriptor y.desc).map (fun d => d.parameters.length) = some n)
theorem zcwV (X : zX p s m args c cc own nL D cas ad A) {y : MethodName} {b : ByteArray} {maxL n fr lo ix : Nat} {ret : Option FieldType} (hy : zyV y b maxL n ret) (hlink : Cond.methodLink own ix y ∈ wsU) (hR : fr + 1 ≤ R.frames ∧ 8 + (maxL + 11) + lo ≤ R.locals) : CallW R s args own y.cls ix y b maxL ret (zws y b maxL ret) (zrm fr lo) 0 0 n := by
  obtain ⟨h1, h2, h3, h4, h5⟩ := hy
  obtain ⟨x1, x2, x3, x4, x5, x6, x7, x8, x9, x10⟩ := X
  exact ⟨callB_of n x5 (zgood h1) rfl rfl rfl (x5 _ h4) (x5 _ hlink) h5 hR, x5 _ h2, x5 _ h3⟩
theorem zcwS (X : zX p s m args c cc own nL D cas ad A) {y : MethodName} {b : ByteArray} {maxL n fr lo ix : Nat} {ret : Option FieldType} (hy : zyS y b maxL n ret) (hlink : Cond.methodLink own ix y ∈ wsU) (hR : fr + 1 ≤ R.frames ∧ 8 + (maxL + 11) + lo ≤ R.locals) : CallB R s args own ix y b maxL ret (zws y b maxL ret) (zrm fr lo) 0 0 n ∧ (Cond.static y).before args s = true := by
  obtain ⟨h1, h2, h4, h5⟩ := hy
  obtain ⟨x1, x2, x3, x4, x5, x6, x7, x8, x9, x10⟩ := X
  exact ⟨callB_of n x5 (zgood h1) rfl rfl rfl (x5 _ h4) (x5 _ hlink) h5 hR, x5 _ h2⟩
theorem zcwN (X : zX p s m args c cc own nL D cas ad A) {y : MethodName} {b : ByteArray} {maxL n fr lo ix : Nat} {ret : Option FieldType} (hy : zyS y b maxL n ret) (hlink : (own, ix, y, "ShardTrails") ∈ zNest) (hR : fr + 1 ≤ R.frames ∧ 8 + (maxL + 11) + lo ≤ R.locals) : va_CN R s args own ix y "ShardTrails" b maxL ret (zws y b maxL ret) (zrm fr lo) 0 0 n ∧ (Cond.static y).before args s = true ∧ True := by
  obtain ⟨h1, h2, h4, h5⟩ := hy
  obtain ⟨x1, x2, x3, x4, x5, x6, x7, x8, x9, x10⟩ := X
  exact ⟨va_cnB n x5 (zgood h1) rfl rfl rfl (x7.1 _ hlink) (x5 _ h4) h5 hR, x5 _ h2, trivial⟩
theorem zafter (X : zX p s m args c cc own nL D cas ad A) {H1 : Heap} {locs1 : List Loc} {ls : Array Slot} {t : State} {st' : List Value} (k : WW p l e R s m args below meth c D cas ad A nL k0 n0 Q (pc + 3) lv st' M') (ht : t.heap = H1) (hB : zGP D cas ad M' t) (hS : va_S A s.heap H1 locs1) (hl : lv_has ls nL lv) : W p l e R s m args below meth c H1 locs1 (k0 + 0) (n0 + 0) Q (F0 m (pc + 3) ls st') := k H1 locs1 ls (by rw [← ht]; exact hB.1) hS hl
theorem R_callVi (X : zX p s m args c cc own nL D cas ad A) {y : MethodName} {b : ByteArray} {maxL n fr lo ix k ci N : Nat} {C : String} {T : u_T} {ret : Option FieldType} {av : List Value} {r : Int} (hM : zMi l D cas ad y b maxL ret fr lo (.ref (ad k) :: av) M r M') (hy : zyV y b maxL n ret) (hk : k < zN ∧ lay k = (0, ci)) (hc : vwCl[ci]? = some (C, T, N)) (hC : C = y.cls) (hlink : Cond.methodLink own ix y ∈ wsU) (hst : st = av.reverse ++ .ref (ad k) :: rest) (hn : av.length = n) (hR : fr + 1 ≤ R.frames ∧ 8 + (maxL + 11) + lo ≤ R.locals) (hcs : k0 ≤ R.cells ∧ n0 ≤ R.slots) (hw : (rest.map fun v => v.category).sum ≤ 8) (hd : decode cc pc = .ok (.invokevirtual ix, 3)) (kk : WW p l e R s m args below meth c D cas ad A nL k0 n0 Q (pc + 3) lv (.int (zI r) :: rest) M') : WW p l e R s m args below meth c D cas ad A nL k0 n0 Q pc lv st M := by
  subst hst; subst hC
  intro H locs ls hP hS hl
  have he := zW_get (cas := cas) (ad := ad) (M := M) hk.1
  rw [zC_0 hk.2] at he
  refine va_calli (va_runV (As := av) (rest := rest) ⟨X.1, X.2.1, X.2.2.1, X.2.2.2.1, X.2.2.2.2.1⟩ hM (zcwV X hy hlink hR) ⟨zblind, va_recv X.2.2.2.2.2.1 hP hc he, fun U hU hW => zpc X hP hS hU hW⟩ rfl hn hl.1 rfl (lv_room hw) hd hcs) hS (fun q _ h => X.2.2.2.2.2.2.2.2.1 q h) X.2.2.2.2.2.2.2.2.1 (fun r1 u t H1 locs1 ht _ hp hB _ _ hS1 => ?_)
  rw [hp]
  exact zafter X kk ht hB hS1 hl
theorem R_callVv (X : zX p s m args c cc own nL D cas ad A) {y : MethodName} {b : ByteArray} {maxL n fr lo ix k ci N : Nat} {C : String} {T : u_T} {av : List Value} (hM : zMv l D cas ad y b maxL fr lo (.ref (ad k) :: av) M M') (hy : zyV y b maxL n none) (hk : k < zN ∧ lay k = (0, ci)) (hc : vwCl[ci]? = some (C, T, N)) (hC : C = y.cls) (hlink : Cond.methodLink own ix y ∈ wsU) (hst : st = av.reverse ++ .ref (ad k) :: rest) (hn : av.length = n) (hR : fr + 1 ≤ R.frames ∧ 8 + (maxL + 11) + lo ≤ R.locals) (hcs : k0 ≤ R.cells ∧ n0 ≤ R.slots) (hw : (rest.map fun v => v.category).sum ≤ 8) (hd : decode cc pc = .ok (.invokevirtual ix, 3)) (kk : WW p l e R s m args below meth c D cas ad A nL k0 n0 Q (pc + 3) lv rest M') : WW p l e R s m args below meth c D cas ad A nL k0 n0 Q pc lv st M := by
  subst hst; subst hC
  intro H locs ls hP hS hl
  have he := zW_get (cas := cas) (ad := ad) (M := M) hk.1
  rw [zC_0 hk.2] at he
  refine va_callv (va_runV (As := av) (rest := rest) ⟨X.1, X.2.1, X.2.2.1, X.2.2.2.1, X.2.2.2.2.1⟩ hM (zcwV X hy hlink hR) ⟨zblind, va_recv X.2.2.2.2.2.1 hP hc he, fun U hU hW => zpc X hP hS hU hW⟩ rfl hn hl.1 rfl (lv_room hw) hd hcs) hS (fun q _ h => X.2.2.2.2.2.2.2.2.1 q h) X.2.2.2.2.2.2.2.2.1 (fun u t H1 locs1 ht _ hp hB _ _ hS1 => ?_)
  exact zafter X kk ht hB hS1 hl
theorem R_callSi (X : zX p s m args c cc own nL D cas ad A) {y : MethodName} {b : ByteArray} {maxL n fr lo ix : Nat} {ret : Option FieldType} {av : List Value} {r : Int} (hM : zMi l D cas ad y b maxL ret fr lo av M r M') (hy : zyS y b maxL n ret) (hlink : Cond.methodLink own ix y ∈ wsU) (hst : st = av.reverse ++ rest) (hn : av.length = n) (hR : fr + 1 ≤ R.frames ∧ 8 + (maxL + 11) + lo ≤ R.locals) (hcs : k0 ≤ R.cells ∧ n0 ≤ R.slots) (hw : (rest.map fun v => v.category).sum ≤ 8) (hd : decode cc pc = .ok (.invokestatic ix, 3)) (kk : WW p l e R s m args below meth c D cas ad A nL k0 n0 Q (pc + 3) lv (.int (zI r) :: rest) M') : WW p l e R s m args below meth c D cas ad A nL k0 n0 Q pc lv st M := by
  subst hst
  intro H locs ls hP hS hl
  refine va_calli (va_runS (As := av) (rest := rest) ⟨X.1, X.2.1, X.2.2.1, X.2.2.2.1, X.2.2.2.2.1⟩ hM (zcwS X hy hlink hR) ⟨zblind, fun U hU hW => zpc X hP hS hU hW⟩ rfl hn hl.1 rfl (lv_room hw) hd hcs) hS (fun q _ h => X.2.2.2.2.2.2.2.2.1 q h) X.2.2.2.2.2.2.2.2.1 (fun r1 u t H1 locs1 ht _ hp hB _ _ hS1 => ?_)
  rw [hp]
  exact zafter X kk ht hB hS1 hl
theorem R_callSv (X : zX p s m args c cc own nL D cas ad A) {y : MethodName} {b : ByteArray} {maxL n fr lo ix : Nat} {av : List Value} (hM : zMv l D cas ad y b maxL fr lo av M M') (hy : zyS y b maxL n none) (hlink : Cond.methodLink own ix y ∈ wsU) (hst : st = av.reverse ++ rest) (hn : av.length = n) (hR : fr + 1 ≤ R.frames ∧ 8 + (maxL + 11) + lo ≤ R.locals) (hcs : k0 ≤ R.cells ∧ n0 ≤ R.slots) (hw : (rest.map fun v => v.category).sum ≤ 8) (hd : decode cc pc = .ok (.invokestatic ix, 3)) (kk : WW p l e R s m args below meth c D cas ad A nL k0 n0 Q (pc + 3) lv rest M') : WW p l e R s m args below meth c D cas ad A nL k0 n0 Q pc lv st M := by
  subst hst
  intro H locs ls hP hS hl
  refine va_callv (va_runS (As := av) (rest := rest) ⟨X.1, X.2.1, X.2.2.1, X.2.2.2.1, X.2.2.2.2.1⟩ hM (zcwS X hy hlink hR) ⟨zblind, fun U hU hW => zpc X hP hS hU hW⟩ rfl hn hl.1 rfl (lv_room hw) hd hcs) hS (fun q _ h => X.2.2.2.2.2.2.2.2.1 q h) X.2.2.2.2.2.2.2.2.1 (fun u t H1 locs1 ht _ hp hB _ _ hS1 => ?_)
  exact zafter X kk ht hB hS1 hl
theorem R_callNi (X : zX p s m args c cc own nL D cas ad A) {y : MethodName} {b : ByteArray} {maxL n fr lo ix : Nat} {ret : Option FieldType} {av : List Value} {r : Int} (hM : zMi l D cas ad y b maxL ret fr lo av M r M') (hy : zyS y b maxL n ret) (hlink : (own, ix, y, "ShardTrails") ∈ zNest) (hst : st = av.reverse ++ rest) (hn : av.length = n) (hR : fr + 1 ≤ R.frames ∧ 8 + (maxL + 11) + lo ≤ R.locals) (hcs : k0 ≤ R.cells ∧ n0 ≤ R.slots) (hw : (rest.map fun v => v.category).sum ≤ 8) (hd : decode cc pc = .ok (.invokestatic ix, 3)) (kk : WW p l e R s m args below meth c D cas ad A nL k0 n0 Q (pc + 3) lv (.int (zI r) :: rest) M') : WW p l e R s m args below meth c D cas ad A nL k0 n0 Q pc lv st M := by
  subst hst
  intro H locs ls hP hS hl
  refine va_calli (va_runSN (As := av) (rest := rest) ⟨X.1, X.2.1, X.2.2.1, X.2.2.2.1, X.2.2.2.2.1⟩ hM (zcwN X hy hlink hR) ⟨zblind, fun U hU hW => zpc X hP hS hU hW⟩ rfl hn hl.1 rfl (lv_room hw) hd hcs) hS (fun q _ h => X.2.2.2.2.2.2.2.2.1 q h) X.2.2.2.2.2.2.2.2.1 (fun r1 u t H1 locs1 ht _ hp hB _ _ hS1 => ?_)
  rw [hp]
  exact zafter X kk ht hB hS1 hl
theorem R_callNv (X : zX p s m args c cc own nL D cas ad A) {y : MethodName} {b : ByteArray} {maxL n fr lo ix : Nat} {av : List Value} (hM : zMv l D cas ad y b maxL fr lo av M M') (hy : zyS y b maxL n none) (hlink : (own, ix, y, "ShardTrails") ∈ zNest) (hst : st = av.reverse ++ rest) (hn : av.length = n) (hR : fr + 1 ≤ R.frames ∧ 8 + (maxL + 11) + lo ≤ R.locals) (hcs : k0 ≤ R.cells ∧ n0 ≤ R.slots) (hw : (rest.map fun v => v.category).sum ≤ 8) (hd : decode cc pc = .ok (.invokestatic ix, 3)) (kk : WW p l e R s m args below meth c D cas ad A nL k0 n0 Q (pc + 3) lv rest M') : WW p l e R s m args below meth c D cas ad A nL k0 n0 Q pc lv st M := by
  subst hst
  intro H locs ls hP hS hl
  refine va_callv (va_runSN (As := av) (rest := rest) ⟨X.1, X.2.1, X.2.2.1, X.2.2.2.1, X.2.2.2.2.1⟩ hM (zcwN X hy hlink hR) ⟨zblind, fun U hU hW => zpc X hP hS hU hW⟩ rfl hn hl.1 rfl (lv_room hw) hd hcs) hS (fun q _ h => X.2.2.2.2.2.2.2.2.1 q h) X.2.2.2.2.2.2.2.2.1 (fun u t H1 locs1 ht _ hp hB _ _ hS1 => ?_)
  exact zafter X kk ht hB hS1 hl
end ZC
end
section
def f_X9_isWithin_b15 (t1 : Int) (M : Mem) : Option (Int × Mem) :=
  if t1 = 0 ∨ t1 = 1 then (some (t1, M)) else none
def f_X9_isWithin_b14 (M : Mem) : Option (Int × Mem) :=
  f_X9_isWithin_b15 0 M
def f_X9_isWithin (v0 : Int) (v1 : Int) (v2 : Int) (M : Mem) : Option (Int × Mem) :=
  if inR v0 then (if inR v1 then (if v0 < v1 then (f_X9_isWithin_b14 M) else (if inR v2 then (if v2 < v0 then (f_X9_isWithin_b14 M) else (f_X9_isWithin_b15 1 M)) else none)) else none) else none
def f_X9_copyRow (a0 : Nat) (n0 : Nat) (a1 : Nat) (n1 : Nat) (M : Mem) : Option (Int × Mem) :=
  if inR ((n0 : Nat) : Int) then (if inR ((n1 : Nat) : Int) then (if (0 ≤ (0 : Int) ∧ 0 ≤ (0 : Int) ∧ 0 ≤ (imin ((n0 : Nat) : Int) ((n1 : Nat) : Int))) ∧ (0 : Int) + (imin ((n0 : Nat) : Int) ((n1 : Nat) : Int)) ≤ (n0 : Int) ∧ (0 : Int) + (imin ((n0 : Nat) : Int) ((n1 : Nat) : Int)) ≤ (n1 : Int) then (zlt (cpM M a0 0 a1 0 (imin ((n0 : Nat) : Int) ((n1 : Nat) : Int))) fun M4 => some (0, M4)) else none) else none) else none
def f_X0_copyFrom (k : Nat) (k1 : Nat) (M : Mem) : Option (Int × Mem) :=
  zbnd (f_X9_copyRow (k1 + 1) 16 (k + 1) 16 M) fun r3 M4 => zbnd (f_X9_copyRow (k1 + 2) 16 (k + 2) 16 M4) fun r8 M9 => zbnd (f_X9_copyRow (k1 + 3) 16 (k + 3) 16 M9) fun r13 M14 => zbnd (f_X9_copyRow (k1 + 4) 256 (k + 4) 256 M14) fun r18 M19 => some (0, M19)
def f_X2_copyFrom_b65 (k : Nat) (k1 : Nat) : Nat → Int → Mem → Option (Int × Mem)
  | 0, _, _ => none
  | n + 1, v2, M => if inR v2 then (if 8 ≤ v2 then (some (0, M)) else (if 0 ≤ v2 ∧ v2 < 8 then (if (M (k1 + 5) v2.toNat) = 0 ∨ (M (k1 + 5) v2.toNat) = 1 then (zlt (wr M (k + 5) v2.toNat (M (k1 + 5) v2.toNat)) fun M32 => f_X2_copyFrom_b65 k k1 n (v2 + 1) M32) else none) else none)) else none
def f_X2_copyFrom (k : Nat) (k1 : Nat) (M : Mem) : Option (Int × Mem) :=
  zlt (wr M k 0 (M k1 0)) fun M1 => zbnd (f_X9_copyRow (k1 + 1) 8 (k + 1) 8 M1) fun r4 M5 => zbnd (f_X9_copyRow (k1 + 2) 8 (k + 2) 8 M5) fun r9 M10 => zbnd (f_X9_copyRow (k1 + 3) 8 (k + 3) 8 M10) fun r14 M15 => zbnd (f_X9_copyRow (k1 + 4) 8 (k + 4) 8 M15) fun r19 M20 => zbnd (f_X9_copyRow (k1 + 6) 128 (k + 6) 128 M20) fun r24 M25 => f_X2_copyFrom_b65 k k1 100000 0 M25
def f_X3_copyFrom (k : Nat) (k1 : Nat) (M : Mem) : Option (Int × Mem) :=
  zlt (wr M k 0 (M k1 0)) fun M1 => zbnd (f_X9_copyRow (k1 + 1) 3 (k + 1) 3 M1) fun r4 M5 => zbnd (f_X9_copyRow (k1 + 2) 3 (k + 2) 3 M5) fun r9 M10 => some (0, M10)
def f_X4_copyFrom (k : Nat) (k1 : Nat) (M : Mem) : Option (Int × Mem) :=
  zlt (wr M k 0 (M k1 0)) fun M1 => zbnd (f_X9_copyRow (k1 + 1) 6 (k + 1) 6 M1) fun r4 M5 => zbnd (f_X9_copyRow (k1 + 2) 6 (k + 2) 6 M5) fun r9 M10 => zbnd (f_X9_copyRow (k1 + 3) 6 (k + 3) 6 M10) fun r14 M15 => zbnd (f_X9_copyRow (k1 + 4) 6 (k + 4) 6 M15) fun r19 M20 => zbnd (f_X9_copyRow (k1 + 5) 6 (k + 5) 6 M20) fun r24 M25 => zbnd (f_X9_copyRow (k1 + 6) 96 (k + 6) 96 M25) fun r29 M30 => some (0, M30)
def f_X8_copyFrom (k : Nat) (k1 : Nat) (M : Mem) : Option (Int × Mem) :=
  zbnd (f_X9_copyRow (k1 + 1) 128 (k + 1) 128 M) fun r3 M4 => zbnd (f_X9_copyRow (k1 + 2) 128 (k + 2) 128 M4) fun r8 M9 => some (0, M9)
def f_X7_copyFrom (k : Nat) (k1 : Nat) (M : Mem) : Option (Int × Mem) :=
  zlt (wr M k 0 (M k1 0)) fun M1 => zlt (wr M1 k 1 (M1 k1 1)) fun M2 => zlt (wr M2 k 2 (M2 k1 2)) fun M3 => zbnd (f_X9_copyRow (k1 + 1) 6 (k + 1) 6 M3) fun r6 M7 => zbnd (f_X9_copyRow (k1 + 2) 4 (k + 2) 4 M7) fun r11 M12 => zbnd (f_X2_copyFrom (k + 3) (k1 + 3) M12) fun r16 M17 => zbnd (f_X8_copyFrom (k + 10) (k1 + 10) M17) fun r21 M22 => zbnd (f_X0_copyFrom (k + 13) (k1 + 13) M22) fun r26 M27 => zbnd (f_X3_copyFrom (k + 18) (k1 + 18) M27) fun r31 M32 => zbnd (f_X4_copyFrom (k + 21) (k1 + 21) M32) fun r36 M37 => some (0, M37)
def f_X1_store_b53 (k1 : Nat) (M : Mem) : Option (Int × Mem) :=
  some (0, M)
def f_X1_store (k1 : Nat) (M : Mem) : Option (Int × Mem) :=
  if inR ((M 88 1) + (M 88 0)) then (if 0 ≤ (((M 88 1) + (M 88 0)).tmod 4) ∧ (((M 88 1) + (M 88 0)).tmod 4) < 4 then (zbnd (f_X7_copyFrom (90 + 29 * (((M 88 1) + (M 88 0)).tmod 4).toNat) k1 M) fun r3 M4 => if inR (M4 88 0) then (if 4 ≤ (M4 88 0) then (if inR ((M4 88 1) + 1) then (zlt (wr M4 88 1 (((M4 88 1) + 1).tmod 4)) fun M8 => f_X1_store_b53 k1 M8) else none) else (zlt (wr M4 88 0 ((M4 88 0) + 1)) fun M9 => f_X1_store_b53 k1 M9)) else none) else none) else none
def f_X2_found (k : Nat) (v1 : Int) (v2 : Int) (v3 : Int) (M : Mem) : Option (Int × Mem) :=
  zlt (M k 0) fun x1 => if 0 ≤ x1 ∧ x1 < 8 then (zlt (wr M (k + 1) x1.toNat v1) fun M4 => zlt (wr M4 (k + 2) x1.toNat v2) fun M6 => if v3 = 0 ∨ v3 = 1 then (zlt (wr M6 (k + 5) x1.toNat v3) fun M9 => zlt (wr M9 k 0 ((M9 k 0) + 1)) fun M10 => some (x1, M10)) else none) else none
def f_X9_addPasture_b20 (M : Mem) : Option (Int × Mem) :=
  some ((-2), M)
def f_X9_addPasture (v1 : Int) (v2 : Int) (v3 : Int) (M : Mem) : Option (Int × Mem) :=
  zbnd (f_X9_isWithin v1 0 90 M) fun r1 M2 => if inR r1 then (if r1 = 0 then (f_X9_addPasture_b20 M2) else (zbnd (f_X9_isWithin v2 1 16 M2) fun r5 M6 => if inR r5 then (if r5 = 0 then (f_X9_addPasture_b20 M6) else (if inR (M6 4 0) then (if (M6 4 0) < 8 then (zbnd (f_X1_store 1 M6) fun r10 M11 => zbnd (f_X2_found 4 v1 v2 v3 M11) fun r13 M14 => some (r13, M14)) else (some ((-3), M6))) else none)) else none)) else none
def f_X9_isPasture (v1 : Int) (M : Mem) : Option (Int × Mem) :=
  zbnd (f_X9_isWithin v1 0 ((M 4 0) - 1) M) fun r1 M2 => if r1 = 0 ∨ r1 = 1 then (some (r1, M2)) else none
def f_X9_cell (v0 : Int) (v1 : Int) (M : Mem) : Option (Int × Mem) :=
  some ((v0 * 16) + v1, M)
def f_X4_join_b14 (k : Nat) : Nat → Int → Int → Int → Mem → Option (Int × Mem)
  | 0, _, _, _, _ => none
  | n + 1, v1, v2, v3, M => if inR v3 then (if 16 ≤ v3 then (zlt (wr M k 0 ((M k 0) + 1)) fun M6 => some (v2, M6)) else (zbnd (f_X9_cell v2 v3 M) fun r8 M9 => if 0 ≤ r8 ∧ r8 < 96 then (zlt (wr M9 (k + 6) r8.toNat v1) fun M12 => f_X4_join_b14 k n v1 v2 (v3 + 1) M12) else none)) else none
def f_X4_join (k : Nat) (v1 : Int) (M : Mem) : Option (Int × Mem) :=
  zlt (M k 0) fun x1 => if 0 ≤ x1 ∧ x1 < 6 then (zlt (wr M (k + 1) x1.toNat v1) fun M4 => f_X4_join_b14 k 100000 v1 x1 0 M4) else none
def f_X9_addReader (v1 : Int) (M : Mem) : Option (Int × Mem) :=
  zbnd (f_X9_isPasture v1 M) fun r1 M2 => if inR r1 then (if r1 = 0 then (some ((-1), M2)) else (if inR (M2 22 0) then (if (M2 22 0) < 6 then (zbnd (f_X1_store 1 M2) fun r6 M7 => zbnd (f_X4_join 22 v1 M7) fun r9 M10 => some (r9, M10)) else (some ((-3), M2))) else none)) else none
def f_X3_join (k : Nat) (v1 : Int) (v2 : Int) (M : Mem) : Option (Int × Mem) :=
  zlt (M k 0) fun x1 => if 0 ≤ x1 ∧ x1 < 3 then (zlt (wr M (k + 1) x1.toNat v1) fun M4 => zlt (wr M4 (k + 2) x1.toNat v2) fun M6 => zlt (wr M6 k 0 ((M6 k 0) + 1)) fun M7 => some (x1, M7)) else none
def f_X9_addWolf (v1 : Int) (v2 : Int) (M : Mem) : Option (Int × Mem) :=
  zbnd (f_X9_isPasture v1 M) fun r1 M2 => if inR r1 then (if r1 = 0 then (some ((-1), M2)) else (zbnd (f_X9_isWithin v2 1 7 M2) fun r5 M6 => if inR r5 then (if r5 = 0 then (some ((-2), M6)) else (if inR (M6 19 0) then (if (M6 19 0) < 3 then (zbnd (f_X1_store 1 M6) fun r10 M11 => zbnd (f_X3_join 19 v1 v2 M11) fun r13 M14 => some (r13, M14)) else (some ((-3), M6))) else none)) else none)) else none
def f_X9_clearText (M : Mem) : Option (Int × Mem) :=
  zlt (M 210 0) fun x1 => zlt (wr M 210 0 0) fun M2 => some (x1, M2)
def f_X9_sum_b27 (a0 : Nat) (n0 : Nat) (v2 : Int) (M : Mem) : Option (Int × Mem) :=
  some (v2, M)
def f_X9_sum_b4 (a0 : Nat) (n0 : Nat) : Nat → Int → Int → Int → Mem → Option (Int × Mem)
  | 0, _, _, _, _ => none
  | n + 1, v1, v2, v3, M => if inR v3 then (if inR v1 then (if v1 ≤ v3 then (f_X9_sum_b27 a0 n0 v2 M) else (if inR ((n0 : Nat) : Int) then (if ((n0 : Nat) : Int) ≤ v3 then (f_X9_sum_b27 a0 n0 v2 M) else (if 0 ≤ v3 ∧ v3 < (n0 : Int) then (zlt (v2 + (M a0 v3.toNat)) fun x5 => f_X9_sum_b4 a0 n0 n v1 x5 (v3 + 1) M) else none)) else none)) else none) else none
def f_X9_sum (a0 : Nat) (n0 : Nat) (v1 : Int) (M : Mem) : Option (Int × Mem) :=
  f_X9_sum_b4 a0 n0 100000 v1 0 0 M
def f_X2_inns_b24 (g4 : Int → Int → Mem → Option (Int × Mem)) (k : Nat) (v1 : Int) (v2 : Int) (M : Mem) : Option (Int × Mem) :=
  g4 v1 (v2 + 1) M
def f_X2_inns_b4 (k : Nat) : Nat → Int → Int → Mem → Option (Int × Mem)
  | 0, _, _, _ => none
  | n + 1, v1, v2, M => if inR v2 then (if inR (M k 0) then (if (M k 0) ≤ v2 then (some (v1, M)) else (if 0 ≤ v2 ∧ v2 < 8 then (if inR (M (k + 5) v2.toNat) then (if (M (k + 5) v2.toNat) = 0 then (f_X2_inns_b24 (f_X2_inns_b4 k n) k v1 v2 M) else (f_X2_inns_b24 (f_X2_inns_b4 k n) k (v1 + 1) v2 M)) else none) else none)) else none) else none
def f_X2_inns (k : Nat) (M : Mem) : Option (Int × Mem) :=
  f_X2_inns_b4 k 100000 0 0 M
def f_X7_season_b23 (k : Nat) (t1 : Int) (M : Mem) : Option (Int × Mem) :=
  some (t1, M)
def f_X7_season (k : Nat) (M : Mem) : Option (Int × Mem) :=
  zlt (M (k + 1) 0) fun x2 => if inR x2 then (if x2 ≤ 0 then (f_X7_season_b23 k 0 M) else (if inR (M k 0) then (if x2 ≠ 0 then (if inR ((M k 0).tdiv x2) then (f_X7_season_b23 k (((M k 0).tdiv x2).tmod 4) M) else none) else none) else none)) else none
def f_X7_seasonLatitude (k : Nat) (M : Mem) : Option (Int × Mem) :=
  zbnd (f_X7_season k M) fun r2 M3 => if 0 ≤ r2 ∧ r2 < 4 then (some (M3 (k + 2) r2.toNat, M3)) else none
def f_X8_isAt_b20 (k : Nat) (t1 : Int) (M : Mem) : Option (Int × Mem) :=
  if t1 = 0 ∨ t1 = 1 then (some (t1, M)) else none
def f_X8_isAt (k : Nat) (v1 : Int) (v2 : Int) (M : Mem) : Option (Int × Mem) :=
  zbnd (f_X9_cell v1 v2 M) fun r2 M3 => if 0 ≤ r2 ∧ r2 < 128 then (if inR (M3 (k + 1) r2.toNat) then (if (M3 (k + 1) r2.toNat) = (-5) then (f_X8_isAt_b20 k 0 M3) else (f_X8_isAt_b20 k 1 M3)) else none) else none
def f_X8_countIn_b22 (g4 : Int → Int → Int → Mem → Option (Int × Mem)) (k : Nat) (v1 : Int) (v2 : Int) (v3 : Int) (M : Mem) : Option (Int × Mem) :=
  g4 v1 v2 (v3 + 1) M
def f_X8_countIn_b4 (k : Nat) : Nat → Int → Int → Int → Mem → Option (Int × Mem)
  | 0, _, _, _, _ => none
  | n + 1, v1, v2, v3, M => if inR v3 then (if 16 ≤ v3 then (some (v2, M)) else (zbnd (f_X8_isAt k v1 v3 M) fun r2 M3 => if inR r2 then (if r2 = 0 then (f_X8_countIn_b22 (f_X8_countIn_b4 k n) k v1 v2 v3 M3) else (f_X8_countIn_b22 (f_X8_countIn_b4 k n) k v1 (v2 + 1) v3 M3)) else none)) else none
def f_X8_countIn (k : Nat) (v1 : Int) (M : Mem) : Option (Int × Mem) :=
  f_X8_countIn_b4 k 100000 v1 0 0 M
def f_X8_countAll_b4 (k : Nat) : Nat → Int → Int → Mem → Option (Int × Mem)
  | 0, _, _, _ => none
  | n + 1, v1, v2, M => if inR v2 then (if 8 ≤ v2 then (some (v1, M)) else (zbnd (f_X8_countIn k v2 M) fun r2 M3 => zlt (v1 + r2) fun x5 => f_X8_countAll_b4 k n x5 (v2 + 1) M3)) else none
def f_X8_countAll (k : Nat) (M : Mem) : Option (Int × Mem) :=
  f_X8_countAll_b4 k 100000 0 0 M
def f_X9_count (v1 : Int) (M : Mem) : Option (Int × Mem) :=
  if inR v1 then (if v1 = 0 then (some (M 1 0, M)) else if v1 = 1 then (zbnd (f_X7_season 1 M) fun r3 M4 => some (r3, M4)) else if v1 = 2 then (zbnd (f_X7_seasonLatitude 1 M) fun r7 M8 => some (r7, M8)) else if v1 = 3 then (some (M 4 0, M)) else if v1 = 4 then (zbnd (f_X2_inns 4 M) fun r12 M13 => some (r12, M13)) else if v1 = 5 then (some (M 19 0, M)) else if v1 = 6 then (some (M 22 0, M)) else if v1 = 7 then (zbnd (f_X8_countAll 11 M) fun r18 M19 => some (r18, M19)) else if v1 = 8 then (zbnd (f_X9_sum 17 16 16 M) fun r22 M23 => some (r22, M23)) else if v1 = 9 then (some (M 1 1, M)) else if v1 = 10 then (some (M 1 2, M)) else if v1 = 11 then (zbnd (f_X9_sum 24 6 (M 22 0) M) fun r28 M29 => some (r28, M29)) else if v1 = 12 then (zbnd (f_X9_sum 26 6 (M 22 0) M) fun r32 M33 => some (r32, M33)) else if v1 = 13 then (some (M 88 0, M)) else if v1 = 14 then (some (M 210 0, M)) else (some ((-2), M))) else none
def f_X8_removeLeftUntil_b53 (g5 : Int → Int → Int → Int → Mem → Option (Int × Mem)) (k : Nat) (v1 : Int) (v2 : Int) (v3 : Int) (v4 : Int) (M : Mem) : Option (Int × Mem) :=
  g5 v1 v2 v3 (v4 + 1) M
def f_X8_removeLeftUntil_b5 (k : Nat) : Nat → Int → Int → Int → Int → Mem → Option (Int × Mem)
  | 0, _, _, _, _, _ => none
  | n + 1, v1, v2, v3, v4, M => if inR v4 then (if 16 ≤ v4 then (some (v3, M)) else (zbnd (f_X8_isAt k v2 v4 M) fun r2 M3 => if inR r2 then (if r2 = 0 then (f_X8_removeLeftUntil_b53 (f_X8_removeLeftUntil_b5 k n) k v1 v2 v3 v4 M3) else (zbnd (f_X9_cell v2 v4 M3) fun r7 M8 => if 0 ≤ r7 ∧ r7 < 128 then (if inR (M8 (k + 2) r7.toNat) then (if inR v1 then (if v1 < (M8 (k + 2) r7.toNat) then (f_X8_removeLeftUntil_b53 (f_X8_removeLeftUntil_b5 k n) k v1 v2 v3 v4 M8) else (zbnd (f_X9_cell v2 v4 M8) fun r14 M15 => if 0 ≤ r14 ∧ r14 < 128 then (zlt (wr M15 (k + 1) r14.toNat (-5)) fun M18 => f_X8_removeLeftUntil_b53 (f_X8_removeLeftUntil_b5 k n) k v1 v2 (v3 + 1) v4 M18) else none)) else none) else none) else none)) else none)) else none
def f_X8_removeLeftUntil (k : Nat) (v1 : Int) (v2 : Int) (M : Mem) : Option (Int × Mem) :=
  f_X8_removeLeftUntil_b5 k 100000 v1 v2 0 0 M
def f_X7_letWolfCut_b38 (k : Nat) (t1 : Int) (M : Mem) : Option (Int × Mem) :=
  zlt (wr M k 1 ((M k 1) + t1)) fun M14 => some (t1, M14)
def f_X7_letWolfCut (k : Nat) (v1 : Int) (M : Mem) : Option (Int × Mem) :=
  if 0 ≤ v1 ∧ v1 < 3 then (zlt (M (k + 19) v1.toNat) fun x4 => if 0 ≤ x4 ∧ x4 < 8 then (if inR (M (k + 8) x4.toNat) then (if (M (k + 8) x4.toNat) = 0 then (zbnd (f_X8_removeLeftUntil (k + 10) (M k 0) x4 M) fun r10 M11 => f_X7_letWolfCut_b38 k r10 M11) else (f_X7_letWolfCut_b38 k 0 M)) else none) else none) else none
def f_X7_tracksInReach_b34 (k : Nat) (t1 : Int) (M : Mem) : Option (Int × Mem) :=
  some (t1, M)
def f_X7_tracksInReach (k : Nat) (v1 : Int) (M : Mem) : Option (Int × Mem) :=
  if 0 ≤ v1 ∧ v1 < 3 then (zlt (M (k + 19) v1.toNat) fun x4 => if 0 ≤ x4 ∧ x4 < 8 then (if inR (M (k + 8) x4.toNat) then (if (M (k + 8) x4.toNat) = 0 then (zbnd (f_X8_countIn (k + 10) x4 M) fun r10 M11 => f_X7_tracksInReach_b34 k r10 M11) else (f_X7_tracksInReach_b34 k 0 M)) else none) else none) else none
def f_X9_cut (v1 : Int) (M : Mem) : Option (Int × Mem) :=
  zbnd (f_X9_isWithin v1 0 ((M 19 0) - 1) M) fun r1 M2 => if inR r1 then (if r1 = 0 then (some ((-1), M2)) else (zbnd (f_X7_tracksInReach 1 v1 M2) fun r5 M6 => if inR r5 then (if 1 ≤ r5 then (zbnd (f_X1_store 1 M6) fun r9 M10 => zbnd (f_X7_letWolfCut 1 v1 M10) fun r12 M13 => some (r12, M13)) else (some ((-5), M6))) else none)) else none
def f_X9_driveWolf (M : Mem) : Option (Int × Mem) :=
  if inR (M 19 0) then (if 1 ≤ (M 19 0) then (zbnd (f_X1_store 1 M) fun r2 M3 => zlt (wr M3 19 0 ((M3 19 0) - 1)) fun M5 => some (M5 19 0, M5)) else (some ((-5), M))) else none
def f_X9_isKey (v0 : Int) (M : Mem) : Option (Int × Mem) :=
  zbnd (f_X9_isWithin v0 0 255 M) fun r1 M2 => if r1 = 0 ∨ r1 = 1 then (some (r1, M2)) else none
def f_X9_isReader (v1 : Int) (M : Mem) : Option (Int × Mem) :=
  zbnd (f_X9_isWithin v1 0 ((M 22 0) - 1) M) fun r1 M2 => if r1 = 0 ∨ r1 = 1 then (some (r1, M2)) else none
def f_X9_isShard (v0 : Int) (M : Mem) : Option (Int × Mem) :=
  zbnd (f_X9_isWithin v0 0 15 M) fun r1 M2 => if r1 = 0 ∨ r1 = 1 then (some (r1, M2)) else none
def f_X9_keep (M : Mem) : Option (Int × Mem) :=
  zbnd (f_X7_copyFrom 59 1 M) fun r1 M2 => zlt (wr M2 0 6 1) fun M4 => some (M4 1 0, M4)
def f_X2_hasRoom_b20 (k : Nat) (t1 : Int) (M : Mem) : Option (Int × Mem) :=
  if t1 = 0 ∨ t1 = 1 then (some (t1, M)) else none
def f_X2_hasRoom (k : Nat) (v1 : Int) (M : Mem) : Option (Int × Mem) :=
  if 0 ≤ v1 ∧ v1 < 8 then (if inR (M (k + 3) v1.toNat) then (if inR (M (k + 2) v1.toNat) then (if (M (k + 2) v1.toNat) ≤ (M (k + 3) v1.toNat) then (f_X2_hasRoom_b20 k 0 M) else (f_X2_hasRoom_b20 k 1 M)) else none) else none) else none
def f_X8_leave (k : Nat) (v1 : Int) (v2 : Int) (v3 : Int) (v4 : Int) (M : Mem) : Option (Int × Mem) :=
  zbnd (f_X9_cell v2 v1 M) fun r2 M3 => if 0 ≤ r2 ∧ r2 < 128 then (zlt (wr M3 (k + 1) r2.toNat v3) fun M6 => zbnd (f_X9_cell v2 v1 M6) fun r8 M9 => if 0 ≤ r8 ∧ r8 < 128 then (zlt (wr M9 (k + 2) r8.toNat v4) fun M12 => zbnd (f_X9_cell v3 v1 M12) fun r13 M14 => if 0 ≤ r13 ∧ r13 < 128 then (zlt (wr M14 (k + 1) r13.toNat (-5)) fun M17 => some (0, M17)) else none) else none) else none
def f_X7_drive (k : Nat) (v1 : Int) (v2 : Int) (M : Mem) : Option (Int × Mem) :=
  if 0 ≤ v1 ∧ v1 < 16 then (zlt (M (k + 14) v1.toNat) fun x4 => zbnd (f_X8_leave (k + 10) v1 x4 v2 (M k 0) M) fun r6 M7 => zlt (wr M7 (k + 14) v1.toNat v2) fun M9 => zlt (wr M9 (k + 16) v1.toNat ((M9 (k + 16) v1.toNat) + 1)) fun M11 => if 0 ≤ x4 ∧ x4 < 8 then (zlt (wr M11 (k + 6) x4.toNat ((M11 (k + 6) x4.toNat) - 1)) fun M15 => if 0 ≤ v2 ∧ v2 < 8 then (zlt (wr M15 (k + 6) v2.toNat ((M15 (k + 6) v2.toNat) + 1)) fun M17 => some (0, M17)) else none) else none) else none
def f_X9_move_b15 (M : Mem) : Option (Int × Mem) :=
  some ((-1), M)
def f_X9_move (v1 : Int) (v2 : Int) (M : Mem) : Option (Int × Mem) :=
  zbnd (f_X9_isShard v1 M) fun r1 M2 => if inR r1 then (if r1 = 0 then (f_X9_move_b15 M2) else (zbnd (f_X9_isPasture v2 M2) fun r5 M6 => if inR r5 then (if r5 = 0 then (f_X9_move_b15 M6) else (if 0 ≤ v1 ∧ v1 < 16 then (zlt (M6 15 v1.toNat) fun x10 => if inR x10 then (if inR v2 then (if x10 = v2 then (some ((-5), M6)) else (zbnd (f_X2_hasRoom 4 v2 M6) fun r13 M14 => if inR r13 then (if r13 = 0 then (some ((-3), M14)) else (zbnd (f_X1_store 1 M14) fun r17 M18 => zbnd (f_X7_drive 1 v1 v2 M18) fun r20 M21 => some (x10, M21))) else none)) else none) else none) else none)) else none)) else none
def f_X0_cool_b2 (k : Nat) : Nat → Int → Mem → Option (Int × Mem)
  | 0, _, _ => none
  | n + 1, v1, M => if inR v1 then (if 16 ≤ v1 then (some (0, M)) else (if 0 ≤ v1 ∧ v1 < 16 then (if inR ((M (k + 2) v1.toNat) * 3) then (zlt (wr M (k + 2) v1.toNat (((M (k + 2) v1.toNat) * 3).tdiv 4)) fun M5 => f_X0_cool_b2 k n (v1 + 1) M5) else none) else none)) else none
def f_X0_cool (k : Nat) (M : Mem) : Option (Int × Mem) :=
  f_X0_cool_b2 k 100000 0 M
def f_X0_isAskedBefore_b40 (k : Nat) (t1 : Int) (M : Mem) : Option (Int × Mem) :=
  if t1 = 0 ∨ t1 = 1 then (some (t1, M)) else none
def f_X0_isAskedBefore_b35 (k : Nat) (M : Mem) : Option (Int × Mem) :=
  f_X0_isAskedBefore_b40 k 1 M
def f_X0_isAskedBefore_b39 (k : Nat) (M : Mem) : Option (Int × Mem) :=
  f_X0_isAskedBefore_b40 k 0 M
def f_X0_isAskedBefore (k : Nat) (v1 : Int) (v2 : Int) (M : Mem) : Option (Int × Mem) :=
  if 0 ≤ v1 ∧ v1 < 16 then (if 0 ≤ v2 ∧ v2 < 16 then (if inR (M (k + 2) v1.toNat) then (if inR (M (k + 2) v2.toNat) then (if (M (k + 2) v2.toNat) < (M (k + 2) v1.toNat) then (f_X0_isAskedBefore_b35 k M) else (if (M (k + 2) v1.toNat) = (M (k + 2) v2.toNat) then (if inR v1 then (if inR v2 then (if v2 ≤ v1 then (f_X0_isAskedBefore_b39 k M) else (f_X0_isAskedBefore_b35 k M)) else none) else none) else (f_X0_isAskedBefore_b39 k M))) else none) else none) else none) else none
def f_X0_sortByHeat_b41 (g2 : Int → Mem → Option (Int × Mem)) (k : Nat) (a1 : Nat) (n1 : Nat) (v2 : Int) (v3 : Int) (M : Mem) : Option (Int × Mem) :=
  if 0 ≤ v3 ∧ v3 < (n1 : Int) then (zlt (wr M a1 v3.toNat v2) fun M14 => g2 (v2 + 1) M14) else none
def f_X0_sortByHeat_b10 (g2 : Int → Mem → Option (Int × Mem)) (k : Nat) (a1 : Nat) (n1 : Nat) : Nat → Int → Int → Mem → Option (Int × Mem)
  | 0, _, _, _ => none
  | n + 1, v2, v3, M => if inR v3 then (if v3 ≤ 0 then (f_X0_sortByHeat_b41 g2 k a1 n1 v2 v3 M) else (if 0 ≤ (v3 - 1) ∧ (v3 - 1) < (n1 : Int) then (zbnd (f_X0_isAskedBefore k v2 (M a1 (v3 - 1).toNat) M) fun r5 M6 => if inR r5 then (if r5 = 0 then (f_X0_sortByHeat_b41 g2 k a1 n1 v2 v3 M6) else (if 0 ≤ v3 ∧ v3 < (n1 : Int) then (zlt (wr M6 a1 v3.toNat (M6 a1 (v3 - 1).toNat)) fun M10 => f_X0_sortByHeat_b10 g2 k a1 n1 n v2 (v3 + (-1)) M10) else none)) else none) else none)) else none
def f_X0_sortByHeat_b2 (k : Nat) (a1 : Nat) (n1 : Nat) : Nat → Int → Mem → Option (Int × Mem)
  | 0, _, _ => none
  | n + 1, v2, M => if inR v2 then (if 16 ≤ v2 then (some (0, M)) else (f_X0_sortByHeat_b10 (f_X0_sortByHeat_b2 k a1 n1 n) k a1 n1 100000 v2 v2 M)) else none
def f_X0_sortByHeat (k : Nat) (a1 : Nat) (n1 : Nat) (M : Mem) : Option (Int × Mem) :=
  f_X0_sortByHeat_b2 k a1 n1 100000 0 M
def f_X2_distance (k : Nat) (v1 : Int) (v2 : Int) (M : Mem) : Option (Int × Mem) :=
  if 0 ≤ v1 ∧ v1 < 8 then (if inR ((M (k + 1) v1.toNat) - v2) then (some (iabs ((M (k + 1) v1.toNat) - v2), M)) else none) else none
def f_X2_bestOther_b58 (g10 : Int → Int → Int → Int → Int → Mem → Option (Int × Mem)) (k : Nat) (v1 : Int) (v2 : Int) (v3 : Int) (v4 : Int) (v5 : Int) (M : Mem) : Option (Int × Mem) :=
  g10 v1 v2 v3 v4 (v5 + 1) M
def f_X2_bestOther_b10 (k : Nat) : Nat → Int → Int → Int → Int → Int → Mem → Option (Int × Mem)
  | 0, _, _, _, _, _, _ => none
  | n + 1, v1, v2, v3, v4, v5, M => if inR v5 then (if inR (M k 0) then (if (M k 0) ≤ v5 then (some (v3, M)) else (if inR v1 then (if v5 = v1 then (f_X2_bestOther_b58 (f_X2_bestOther_b10 k n) k v1 v2 v3 v4 v5 M) else (zbnd (f_X2_hasRoom k v5 M) fun r4 M5 => if inR r4 then (if r4 = 0 then (f_X2_bestOther_b58 (f_X2_bestOther_b10 k n) k v1 v2 v3 v4 v5 M5) else (zbnd (f_X2_distance k v5 v2 M5) fun r8 M9 => if inR r8 then (if inR v4 then (if v4 ≤ r8 then (f_X2_bestOther_b58 (f_X2_bestOther_b10 k n) k v1 v2 v3 v4 v5 M9) else (zbnd (f_X2_distance k v5 v2 M9) fun r13 M14 => f_X2_bestOther_b58 (f_X2_bestOther_b10 k n) k v1 v2 v5 r13 v5 M14)) else none) else none)) else none)) else none)) else none) else none
def f_X2_bestOther (k : Nat) (v1 : Int) (v2 : Int) (M : Mem) : Option (Int × Mem) :=
  f_X2_bestOther_b10 k 100000 v1 v2 (-5) 91 0 M
def f_X7_driveHerd_b116 (g20 : Int → Int → Int → Mem → Option (Int × Mem)) (k : Nat) (v1 : Int) (v2 : Int) (v3 : Int) (M : Mem) : Option (Int × Mem) :=
  g20 v1 v2 (v3 + 1) M
def f_X7_driveHerd_b122 (k : Nat) (v1 : Int) (M : Mem) : Option (Int × Mem) :=
  some (v1, M)
def f_X7_driveHerd_b20 (k : Nat) : Nat → Int → Int → Int → Mem → Option (Int × Mem)
  | 0, _, _, _, _ => none
  | n + 1, v1, v2, v3, M => if inR v3 then (if 16 ≤ v3 then (f_X7_driveHerd_b122 k v1 M) else (if inR v1 then (if inR (M (k + 1) 3) then (if (M (k + 1) 3) ≤ v1 then (f_X7_driveHerd_b122 k v1 M) else (if 0 ≤ v3 ∧ v3 < 16 then (zlt (M (k + 28) v3.toNat) fun x15 => if 0 ≤ x15 ∧ x15 < 16 then (zlt (M (k + 14) x15.toNat) fun x19 => zbnd (f_X2_bestOther (k + 3) x19 v2 M) fun r21 M22 => if inR r21 then (if r21 = (-5) then (f_X7_driveHerd_b116 (f_X7_driveHerd_b20 k n) k v1 v2 v3 M22) else (zbnd (f_X2_distance (k + 3) x19 v2 M22) fun r25 M26 => zbnd (f_X2_distance (k + 3) r21 v2 M26) fun r28 M29 => if inR (r25 - r28) then (if inR (M29 (k + 1) 2) then (if (r25 - r28) < (M29 (k + 1) 2) then (f_X7_driveHerd_b116 (f_X7_driveHerd_b20 k n) k v1 v2 v3 M29) else (zbnd (f_X7_drive k x15 r21 M29) fun r33 M34 => f_X7_driveHerd_b116 (f_X7_driveHerd_b20 k n) k (v1 + 1) v2 v3 M34)) else none) else none)) else none) else none) else none)) else none) else none)) else none
def f_X7_driveHerd (k : Nat) (M : Mem) : Option (Int × Mem) :=
  zbnd (f_X7_seasonLatitude k M) fun r1 M2 => zbnd (f_X0_sortByHeat (k + 13) (k + 28) 16 M2) fun r6 M7 => f_X7_driveHerd_b20 k 100000 0 r1 0 M7
def f_X7_passDayOfHerd (k : Nat) (M : Mem) : Option (Int × Mem) :=
  zbnd (f_X0_cool (k + 13) M) fun r2 M3 => zbnd (f_X7_driveHerd k M3) fun r5 M6 => zlt (wr M6 k 0 ((M6 k 0) + 1)) fun M8 => some (0, M8)
def f_X9_movesIn_b35 : Nat → Int → Int → Int → Mem → Option (Int × Mem)
  | 0, _, _, _, _ => none
  | n + 1, v1, v2, v3, M => if inR v3 then (if 60 < v3 then (some ((-5), M)) else (zbnd (f_X7_passDayOfHerd 30 M) fun r12 M13 => if 0 ≤ v1 ∧ v1 < 16 then (if inR (M13 46 v1.toNat) then (if inR v2 then (if (M13 46 v1.toNat) = v2 then (f_X9_movesIn_b35 n v1 v2 (v3 + 1) M13) else (some (v3, M13))) else none) else none) else none)) else none
def f_X9_movesIn (v1 : Int) (M : Mem) : Option (Int × Mem) :=
  zbnd (f_X9_isShard v1 M) fun r1 M2 => if inR r1 then (if r1 = 0 then (some ((-1), M2)) else (zbnd (f_X7_copyFrom 30 1 M2) fun r5 M6 => if 0 ≤ v1 ∧ v1 < 16 then (zlt (M6 46 v1.toNat) fun x9 => f_X9_movesIn_b35 100000 v1 x9 1 M6) else none)) else none
def f_X2_tellAll_b35 (g2 : Int → Mem → Option (Int × Mem)) (k : Nat) (a1 : Nat) (n1 : Nat) (v2 : Int) (M : Mem) : Option (Int × Mem) :=
  g2 (v2 + 1) M
def f_X2_tellAll_b2 (k : Nat) (a1 : Nat) (n1 : Nat) : Nat → Int → Mem → Option (Int × Mem)
  | 0, _, _ => none
  | n + 1, v2, M => if inR v2 then (if inR (M k 0) then (if (M k 0) ≤ v2 then (some (0, M)) else (if 0 ≤ v2 ∧ v2 < 8 then (if inR (M (k + 5) v2.toNat) then (if (M (k + 5) v2.toNat) = 0 then (f_X2_tellAll_b35 (f_X2_tellAll_b2 k a1 n1 n) k a1 n1 v2 M) else (zbnd (f_X9_cell v2 0 M) fun r7 M8 => if (0 ≤ (0 : Int) ∧ 0 ≤ r7 ∧ 0 ≤ (16 : Int)) ∧ (0 : Int) + (16 : Int) ≤ (n1 : Int) ∧ r7 + (16 : Int) ≤ 128 then (zlt (cpM M8 a1 0 (k + 6) r7 16) fun M11 => f_X2_tellAll_b35 (f_X2_tellAll_b2 k a1 n1 n) k a1 n1 v2 M11) else none)) else none) else none)) else none) else none
def f_X2_tellAll (k : Nat) (a1 : Nat) (n1 : Nat) (M : Mem) : Option (Int × Mem) :=
  f_X2_tellAll_b2 k a1 n1 100000 0 M
def f_X7_letInnsPost (k : Nat) (M : Mem) : Option (Int × Mem) :=
  zbnd (f_X2_tellAll (k + 3) (k + 14) 16 M) fun r4 M5 => some (0, M5)
def f_X7_letInnsPostOnTheirDay_b26 (k : Nat) (M : Mem) : Option (Int × Mem) :=
  some (0, M)
def f_X7_letInnsPostOnTheirDay (k : Nat) (M : Mem) : Option (Int × Mem) :=
  zlt (M (k + 1) 4) fun x2 => if inR x2 then (if x2 ≤ 0 then (f_X7_letInnsPostOnTheirDay_b26 k M) else (if inR ((M k 0) + 1) then (if x2 ≠ 0 then (if inR (((M k 0) + 1).tmod x2) then (if (((M k 0) + 1).tmod x2) = 0 then (zbnd (f_X7_letInnsPost k M) fun r7 M8 => f_X7_letInnsPostOnTheirDay_b26 k M8) else (f_X7_letInnsPostOnTheirDay_b26 k M)) else none) else none) else none)) else none
def f_X7_letTracksGrowOver_b53 (g2 : Int → Mem → Option (Int × Mem)) (k : Nat) (v1 : Int) (M : Mem) : Option (Int × Mem) :=
  g2 (v1 + 1) M
def f_X7_letTracksGrowOver_b2 (k : Nat) : Nat → Int → Mem → Option (Int × Mem)
  | 0, _, _ => none
  | n + 1, v1, M => if inR v1 then (if inR (M (k + 3) 0) then (if (M (k + 3) 0) ≤ v1 then (some (0, M)) else (if 0 ≤ v1 ∧ v1 < 8 then (if inR (M (k + 8) v1.toNat) then (if (M (k + 8) v1.toNat) = 0 then (zbnd (f_X8_removeLeftUntil (k + 10) ((M k 0) - (M (k + 1) 1)) v1 M) fun r9 M10 => zlt (wr M10 k 2 ((M k 2) + r9)) fun M12 => f_X7_letTracksGrowOver_b53 (f_X7_letTracksGrowOver_b2 k n) k v1 M12) else (f_X7_letTracksGrowOver_b53 (f_X7_letTracksGrowOver_b2 k n) k v1 M)) else none) else none)) else none) else none
def f_X7_letTracksGrowOver (k : Nat) (M : Mem) : Option (Int × Mem) :=
  f_X7_letTracksGrowOver_b2 k 100000 0 M
def f_X3_advance_b25 (k : Nat) (M : Mem) : Option (Int × Mem) :=
  some (0, M)
def f_X3_advance (k : Nat) (v1 : Int) (v2 : Int) (M : Mem) : Option (Int × Mem) :=
  if inR v2 then (if v2 ≤ 0 then (f_X3_advance_b25 k M) else (if 0 ≤ v1 ∧ v1 < 3 then (if inR ((M (k + 1) v1.toNat) + (M (k + 2) v1.toNat)) then (if v2 ≠ 0 then (zlt (wr M (k + 1) v1.toNat (((M (k + 1) v1.toNat) + (M (k + 2) v1.toNat)).tmod v2)) fun M7 => f_X3_advance_b25 k M7) else none) else none) else none)) else none
def f_X7_letWolvesGo_b2 (k : Nat) : Nat → Int → Mem → Option (Int × Mem)
  | 0, _, _ => none
  | n + 1, v1, M => if inR v1 then (if inR (M (k + 18) 0) then (if (M (k + 18) 0) ≤ v1 then (some (0, M)) else (zbnd (f_X3_advance (k + 18) v1 (M (k + 3) 0) M) fun r5 M6 => zbnd (f_X7_letWolfCut k v1 M6) fun r8 M9 => f_X7_letWolvesGo_b2 k n (v1 + 1) M9)) else none) else none
def f_X7_letWolvesGo (k : Nat) (M : Mem) : Option (Int × Mem) :=
  f_X7_letWolvesGo_b2 k 100000 0 M
def f_X7_passDay (k : Nat) (M : Mem) : Option (Int × Mem) :=
  zbnd (f_X0_cool (k + 13) M) fun r2 M3 => zbnd (f_X7_letWolvesGo k M3) fun r5 M6 => zbnd (f_X7_letTracksGrowOver k M6) fun r8 M9 => zbnd (f_X7_driveHerd k M9) fun r11 M12 => zbnd (f_X7_letInnsPostOnTheirDay k M12) fun r14 M15 => zlt (wr M15 k 0 ((M15 k 0) + 1)) fun M17 => some (r11, M17)
def f_X9_pass_b46 : Nat → Int → Int → Int → Mem → Option (Int × Mem)
  | 0, _, _, _, _ => none
  | n + 1, v1, v2, v3, M => if inR v3 then (if inR v1 then (if v1 ≤ v3 then (some (v2, M)) else (zbnd (f_X7_passDay 1 M) fun r13 M14 => zlt (v2 + r13) fun x16 => f_X9_pass_b46 n v1 x16 (v3 + 1) M14)) else none) else none
def f_X9_pass (v1 : Int) (M : Mem) : Option (Int × Mem) :=
  zbnd (f_X9_isWithin v1 1 60 M) fun r1 M2 => if inR r1 then (if r1 = 0 then (some ((-2), M2)) else (if inR ((M2 1 0) + v1) then (if ((M2 1 0) + v1) ≤ 9999 then (zbnd (f_X1_store 1 M2) fun r6 M7 => f_X9_pass_b46 100000 v1 0 0 M7) else (some ((-4), M2))) else none)) else none
def f_X0_heatIn_b29 (g4 : Int → Int → Int → Mem → Option (Int × Mem)) (k : Nat) (v1 : Int) (v2 : Int) (v3 : Int) (M : Mem) : Option (Int × Mem) :=
  g4 v1 v2 (v3 + 1) M
def f_X0_heatIn_b4 (k : Nat) : Nat → Int → Int → Int → Mem → Option (Int × Mem)
  | 0, _, _, _, _ => none
  | n + 1, v1, v2, v3, M => if inR v3 then (if 16 ≤ v3 then (some (v2, M)) else (if 0 ≤ v3 ∧ v3 < 16 then (if inR (M (k + 1) v3.toNat) then (if inR v1 then (if (M (k + 1) v3.toNat) = v1 then (zlt (v2 + (M (k + 2) v3.toNat)) fun x7 => f_X0_heatIn_b29 (f_X0_heatIn_b4 k n) k v1 x7 v3 M) else (f_X0_heatIn_b29 (f_X0_heatIn_b4 k n) k v1 v2 v3 M)) else none) else none) else none)) else none
def f_X0_heatIn (k : Nat) (v1 : Int) (M : Mem) : Option (Int × Mem) :=
  f_X0_heatIn_b4 k 100000 v1 0 0 M
def f_X3_countIn_b25 (g4 : Int → Int → Int → Mem → Option (Int × Mem)) (k : Nat) (v1 : Int) (v2 : Int) (v3 : Int) (M : Mem) : Option (Int × Mem) :=
  g4 v1 v2 (v3 + 1) M
def f_X3_countIn_b4 (k : Nat) : Nat → Int → Int → Int → Mem → Option (Int × Mem)
  | 0, _, _, _, _ => none
  | n + 1, v1, v2, v3, M => if inR v3 then (if inR (M k 0) then (if (M k 0) ≤ v3 then (some (v2, M)) else (if 0 ≤ v3 ∧ v3 < 3 then (if inR (M (k + 1) v3.toNat) then (if inR v1 then (if (M (k + 1) v3.toNat) = v1 then (f_X3_countIn_b25 (f_X3_countIn_b4 k n) k v1 (v2 + 1) v3 M) else (f_X3_countIn_b25 (f_X3_countIn_b4 k n) k v1 v2 v3 M)) else none) else none) else none)) else none) else none
def f_X3_countIn (k : Nat) (v1 : Int) (M : Mem) : Option (Int × Mem) :=
  f_X3_countIn_b4 k 100000 v1 0 0 M
def f_X9_pasture_b106 (t1 : Int) (M : Mem) : Option (Int × Mem) :=
  some (t1, M)
def f_X9_pasture (v1 : Int) (v2 : Int) (M : Mem) : Option (Int × Mem) :=
  zbnd (f_X9_isPasture v1 M) fun r1 M2 => if inR r1 then (if r1 = 0 then (some ((-1), M2)) else (if inR v2 then (if v2 = 0 then (if 0 ≤ v1 ∧ v1 < 8 then (some (M2 5 v1.toNat, M2)) else none) else if v2 = 1 then (if 0 ≤ v1 ∧ v1 < 8 then (some (M2 6 v1.toNat, M2)) else none) else if v2 = 2 then (if 0 ≤ v1 ∧ v1 < 8 then (if inR (M2 9 v1.toNat) then (if (M2 9 v1.toNat) = 0 then (f_X9_pasture_b106 0 M2) else (f_X9_pasture_b106 1 M2)) else none) else none) else if v2 = 3 then (if 0 ≤ v1 ∧ v1 < 8 then (some (M2 7 v1.toNat, M2)) else none) else if v2 = 4 then (zbnd (f_X8_countIn 11 v1 M2) fun r16 M17 => some (r16, M17)) else if v2 = 5 then (zbnd (f_X7_seasonLatitude 1 M2) fun r20 M21 => zbnd (f_X2_distance 4 v1 r20 M21) fun r23 M24 => some (r23, M24)) else if v2 = 6 then (zbnd (f_X0_heatIn 14 v1 M2) fun r27 M28 => some (r27, M28)) else if v2 = 7 then (zbnd (f_X3_countIn 19 v1 M2) fun r31 M32 => some (r31, M32)) else if v2 = 8 then (if 0 ≤ v1 ∧ v1 < 8 then (some (M2 8 v1.toNat, M2)) else none) else (some ((-2), M2))) else none)) else none
def f_X9_post (M : Mem) : Option (Int × Mem) :=
  zbnd (f_X2_inns 4 M) fun r1 M2 => if inR r1 then (if 1 ≤ r1 then (zbnd (f_X1_store 1 M2) fun r5 M6 => zbnd (f_X7_letInnsPost 1 M6) fun r8 M9 => some (r1, M9)) else (some ((-5), M2))) else none
def f_X6_put_b30 (M : Mem) : Option (Int × Mem) :=
  some (0, M)
def f_X6_put (v1 : Int) (M : Mem) : Option (Int × Mem) :=
  if inR (M 206 5) then (if 137 ≤ (M 206 5) then (f_X6_put_b30 M) else (if 0 ≤ (M 206 5) ∧ (M 206 5) < 137 then (zlt (wr M 207 (M 206 5).toNat v1) fun M3 => zlt (wr M3 206 5 ((M3 206 5) + 1)) fun M4 => f_X6_put_b30 M4) else none)) else none
def f_X6_begin_b27 : Nat → Int → Int → Mem → Option (Int × Mem)
  | 0, _, _, _ => none
  | n + 1, v1, v2, M => if inR v2 then (if 8 ≤ v2 then (zlt (wr M 206 5 0) fun M7 => zbnd (f_X6_put v1 M7) fun r8 M9 => some (0, M9)) else (if 0 ≤ v2 ∧ v2 < 8 then (zlt (wr M 208 v2.toNat 0) fun M12 => zlt (wr M12 209 v2.toNat 0) fun M13 => f_X6_begin_b27 n v1 (v2 + 1) M13) else none)) else none
def f_X6_begin (v1 : Int) (M : Mem) : Option (Int × Mem) :=
  zlt (wr M 206 0 0) fun M1 => zlt (wr M1 206 1 0) fun M2 => zlt (wr M2 206 2 0) fun M3 => zlt (wr M3 206 3 0) fun M4 => zlt (wr M4 206 4 0) fun M5 => f_X6_begin_b27 100000 v1 0 M5
def f_X6_nearestNewInn_b101 (g10 : Int → Int → Int → Int → Mem → Option (Int × Mem)) (k1 : Nat) (v2 : Int) (v3 : Int) (v4 : Int) (v5 : Int) (M : Mem) : Option (Int × Mem) :=
  g10 v2 v3 v4 (v5 + 1) M
def f_X6_nearestNewInn_b54 (g10 : Int → Int → Int → Int → Mem → Option (Int × Mem)) (k1 : Nat) (v2 : Int) (v3 : Int) (v4 : Int) (v5 : Int) (t1 : Int) (M : Mem) : Option (Int × Mem) :=
  if inR v5 then (if inR v2 then (if v5 = v2 then (f_X6_nearestNewInn_b101 g10 k1 v2 v3 v4 v5 M) else (if inR t1 then (if t1 = 0 then (f_X6_nearestNewInn_b101 g10 k1 v2 v3 v4 v5 M) else (if 0 ≤ v2 ∧ v2 < 8 then (zbnd (f_X2_distance k1 v5 (M (k1 + 1) v2.toNat) M) fun r17 M18 => if inR r17 then (if inR v4 then (if v4 ≤ r17 then (f_X6_nearestNewInn_b101 g10 k1 v2 v3 v4 v5 M18) else (zbnd (f_X2_distance k1 v5 (M18 (k1 + 1) v2.toNat) M18) fun r22 M23 => f_X6_nearestNewInn_b101 g10 k1 v2 v5 r22 v5 M23)) else none) else none) else none)) else none)) else none) else none
def f_X6_nearestNewInn_b53 (g10 : Int → Int → Int → Int → Mem → Option (Int × Mem)) (k1 : Nat) (v2 : Int) (v3 : Int) (v4 : Int) (v5 : Int) (M : Mem) : Option (Int × Mem) :=
  f_X6_nearestNewInn_b54 g10 k1 v2 v3 v4 v5 0 M
def f_X6_nearestNewInn_b10 (k1 : Nat) : Nat → Int → Int → Int → Int → Mem → Option (Int × Mem)
  | 0, _, _, _, _, _ => none
  | n + 1, v2, v3, v4, v5, M => if inR v5 then (if inR (M k1 0) then (if (M k1 0) ≤ v5 then (some (v3, M)) else (if 0 ≤ v5 ∧ v5 < 8 then (if inR (M (k1 + 5) v5.toNat) then (if (M (k1 + 5) v5.toNat) = 0 then (f_X6_nearestNewInn_b53 (f_X6_nearestNewInn_b10 k1 n) k1 v2 v3 v4 v5 M) else (if inR (M 209 v5.toNat) then (if (M 209 v5.toNat) = 0 then (if inR (M 208 v5.toNat) then (if (M 208 v5.toNat) = 0 then (f_X6_nearestNewInn_b54 (f_X6_nearestNewInn_b10 k1 n) k1 v2 v3 v4 v5 1 M) else (f_X6_nearestNewInn_b53 (f_X6_nearestNewInn_b10 k1 n) k1 v2 v3 v4 v5 M)) else none) else (f_X6_nearestNewInn_b53 (f_X6_nearestNewInn_b10 k1 n) k1 v2 v3 v4 v5 M)) else none)) else none) else none)) else none) else none
def f_X6_nearestNewInn (k1 : Nat) (v2 : Int) (M : Mem) : Option (Int × Mem) :=
  f_X6_nearestNewInn_b10 k1 100000 v2 (-5) 91 0 M
def f_X6_next_b113 (k1 : Nat) (v2 : Int) (v3 : Int) (M : Mem) : Option (Int × Mem) :=
  zbnd (f_X6_nearestNewInn (k1 + 3) v3 M) fun r32 M33 => if inR r32 then (if r32 = (-5) then (zlt (wr M33 206 0 ((M33 206 0) + (M33 (k1 + 3) 0))) fun M36 => zlt (wr M36 206 4 1) fun M37 => if 0 ≤ v2 ∧ v2 < 16 then (some (M37 (k1 + 14) v2.toNat, M37)) else none) else (zlt (wr M33 206 0 ((M33 206 0) + 1)) fun M41 => zlt (wr M41 206 3 ((M41 206 3) + 1)) fun M42 => if 0 ≤ r32 ∧ r32 < 8 then (zlt (wr M42 209 r32.toNat 1) fun M44 => some (r32, M44)) else none)) else none
def f_X6_next (k1 : Nat) (v2 : Int) (v3 : Int) (M : Mem) : Option (Int × Mem) :=
  zbnd (f_X8_isAt (k1 + 10) v3 v2 M) fun r2 M3 => if inR r2 then (if r2 = 0 then (zbnd (f_X9_cell v3 v2 M3) fun r8 M9 => if 0 ≤ r8 ∧ r8 < 128 then (zlt (M9 (k1 + 9) r8.toNat) fun x12 => if 0 ≤ v3 ∧ v3 < 8 then (if inR (M9 208 v3.toNat) then (if (M9 208 v3.toNat) = 0 then (if inR x12 then (if x12 = (-5) then (f_X6_next_b113 k1 v2 v3 M9) else (if inR v3 then (if x12 = v3 then (f_X6_next_b113 k1 v2 v3 M9) else (zlt (wr M9 206 0 ((M9 206 0) + 1)) fun M17 => zlt (wr M17 206 2 ((M17 206 2) + 1)) fun M18 => zlt (wr M18 208 v3.toNat 1) fun M19 => some (x12, M19))) else none)) else none) else (f_X6_next_b113 k1 v2 v3 M9)) else none) else none) else none) else (zlt (wr M3 206 0 ((M3 206 0) + 1)) fun M23 => zlt (wr M23 206 1 ((M23 206 1) + 1)) fun M24 => zbnd (f_X9_cell v3 v2 M24) fun r26 M27 => if 0 ≤ r26 ∧ r26 < 128 then (some (M27 (k1 + 11) r26.toNat, M27)) else none)) else none
def f_X6_find_b72 (k1 : Nat) (M : Mem) : Option (Int × Mem) :=
  some (0, M)
def f_X6_find_b35 (k1 : Nat) : Nat → Int → Int → Int → Int → Mem → Option (Int × Mem)
  | 0, _, _, _, _, _ => none
  | n + 1, v3, v4, v5, v6, M => if inR v6 then (if 137 ≤ v6 then (f_X6_find_b72 k1 M) else (if inR v4 then (if inR v5 then (if v4 = v5 then (f_X6_find_b72 k1 M) else (zbnd (f_X6_next k1 v3 v4 M) fun r18 M19 => zbnd (f_X6_put r18 M19) fun r21 M22 => f_X6_find_b35 k1 n v3 r18 v5 (v6 + 1) M22)) else none) else none)) else none
def f_X6_find (k1 : Nat) (v2 : Int) (v3 : Int) (M : Mem) : Option (Int × Mem) :=
  zbnd (f_X9_cell v2 v3 M) fun r3 M4 => if 0 ≤ r3 ∧ r3 < 96 then (zlt (M4 (k1 + 27) r3.toNat) fun x7 => if 0 ≤ v3 ∧ v3 < 16 then (zlt (M4 (k1 + 14) v3.toNat) fun x11 => zbnd (f_X6_begin x7 M4) fun r12 M13 => f_X6_find_b35 k1 100000 v3 x7 x11 0 M13) else none) else none
def f_X9_reach_b15 (M : Mem) : Option (Int × Mem) :=
  some ((-1), M)
def f_X9_reach_b115 (t1 : Int) (M : Mem) : Option (Int × Mem) :=
  some (t1, M)
def f_X9_reach (v1 : Int) (v2 : Int) (v3 : Int) (M : Mem) : Option (Int × Mem) :=
  zbnd (f_X9_isReader v1 M) fun r1 M2 => if inR r1 then (if r1 = 0 then (f_X9_reach_b15 M2) else (zbnd (f_X9_isKey v2 M2) fun r5 M6 => if inR r5 then (if r5 = 0 then (f_X9_reach_b15 M6) else (if inR v2 then (zbnd (f_X6_find 1 v1 (v2.tdiv 16) M6) fun r10 M11 => if inR v3 then (if v3 = 0 then (some (M11 206 0, M11)) else if v3 = 1 then (some (M11 206 1, M11)) else if v3 = 2 then (some (M11 206 2, M11)) else if v3 = 3 then (some (M11 206 3, M11)) else if v3 = 4 then (if inR (M11 206 4) then (if (M11 206 4) = 0 then (f_X9_reach_b115 0 M11) else (f_X9_reach_b115 1 M11)) else none) else (some ((-2), M11))) else none) else none)) else none)) else none
def f_X0_warm (k : Nat) (v1 : Int) (v2 : Int) (M : Mem) : Option (Int × Mem) :=
  if 0 ≤ v1 ∧ v1 < 16 then (if inR ((M (k + 2) v1.toNat) + v2) then (zlt (wr M (k + 2) v1.toNat (imin ((M (k + 2) v1.toNat) + v2) 9999)) fun M4 => some (0, M4)) else none) else none
def f_X4_note_b42 (k : Nat) (v1 : Int) (v2 : Int) (v3 : Int) (M : Mem) : Option (Int × Mem) :=
  if 0 ≤ v1 ∧ v1 < 6 then (if inR (M (k + 5) v1.toNat) then (if inR (M 206 0) then (zlt (wr M (k + 5) v1.toNat (imax (M (k + 5) v1.toNat) (M 206 0))) fun M14 => zbnd (f_X9_cell v1 v2 M14) fun r16 M17 => if 0 ≤ r16 ∧ r16 < 96 then (zlt (wr M17 (k + 6) r16.toNat v3) fun M20 => some (0, M20)) else none) else none) else none) else none
def f_X4_note (k : Nat) (v1 : Int) (v2 : Int) (v3 : Int) (M : Mem) : Option (Int × Mem) :=
  if 0 ≤ v1 ∧ v1 < 6 then (zlt (wr M (k + 2) v1.toNat ((M (k + 2) v1.toNat) + 1)) fun M3 => zlt (wr M3 (k + 3) v1.toNat ((M3 (k + 3) v1.toNat) + (M3 206 0))) fun M5 => if inR (M5 206 4) then (if (M5 206 4) = 0 then (f_X4_note_b42 k v1 v2 v3 M5) else (zlt (wr M5 (k + 4) v1.toNat ((M5 (k + 4) v1.toNat) + 1)) fun M8 => f_X4_note_b42 k v1 v2 v3 M8)) else none) else none
def f_X7_noteRequest_b72 (g36 : Int → Mem → Option (Int × Mem)) (k : Nat) (v4 : Int) (M : Mem) : Option (Int × Mem) :=
  g36 (v4 + 1) M
def f_X7_noteRequest_b36 (k : Nat) : Nat → Int → Mem → Option (Int × Mem)
  | 0, _, _ => none
  | n + 1, v4, M => if inR v4 then (if inR (M (k + 3) 0) then (if (M (k + 3) 0) ≤ v4 then (some (0, M)) else (if 0 ≤ v4 ∧ v4 < 8 then (if inR (M 209 v4.toNat) then (if (M 209 v4.toNat) = 0 then (f_X7_noteRequest_b72 (f_X7_noteRequest_b36 k n) k v4 M) else (zlt (wr M (k + 7) v4.toNat ((M (k + 7) v4.toNat) + 1)) fun M18 => f_X7_noteRequest_b72 (f_X7_noteRequest_b36 k n) k v4 M18)) else none) else none)) else none) else none
def f_X7_noteRequest (k : Nat) (v1 : Int) (v2 : Int) (M : Mem) : Option (Int × Mem) :=
  if 0 ≤ v2 ∧ v2 < 16 then (zbnd (f_X4_note (k + 21) v1 v2 (M (k + 14) v2.toNat) M) fun r5 M6 => zbnd (f_X0_warm (k + 13) v2 (M6 (k + 1) 5) M6) fun r9 M10 => f_X7_noteRequest_b36 k 100000 0 M10) else none
def f_X9_serve_b52 (M : Mem) : Option (Int × Mem) :=
  some (M 206 0, M)
def f_X9_serve (v1 : Int) (v2 : Int) (v3 : Int) (M : Mem) : Option (Int × Mem) :=
  if inR v2 then (zlt (v2.tdiv 16) fun x2 => zbnd (f_X6_find 1 v1 x2 M) fun r3 M4 => zbnd (f_X7_noteRequest 1 v1 x2 M4) fun r6 M7 => if inR v3 then (if v3 = (-1) then (f_X9_serve_b52 M7) else (if 0 ≤ v2 ∧ v2 < 256 then (zlt (wr M7 18 v2.toNat v3) fun M11 => f_X9_serve_b52 M11) else none)) else none) else none
def f_X5_digit_b27 (t1 : Int) (M : Mem) : Option (Int × Mem) :=
  some (t1, M)
def f_X5_digit (M : Mem) : Option (Int × Mem) :=
  if inR (M 210 6) then (if inR (M 210 0) then (if (M 210 0) ≤ (M 210 6) then (f_X5_digit_b27 0 M) else (if 0 ≤ (M 210 6) ∧ (M 210 6) < 60 then (f_X5_digit_b27 ((M 214 (M 210 6).toNat) - 48) M) else none)) else none) else none
def f_X5_isDigit_b44 (t1 : Int) (M : Mem) : Option (Int × Mem) :=
  if t1 = 0 ∨ t1 = 1 then (some (t1, M)) else none
def f_X5_isDigit_b43 (M : Mem) : Option (Int × Mem) :=
  f_X5_isDigit_b44 0 M
def f_X5_isDigit (M : Mem) : Option (Int × Mem) :=
  if inR (M 210 6) then (if inR (M 210 0) then (if (M 210 0) ≤ (M 210 6) then (f_X5_isDigit_b43 M) else (if 0 ≤ (M 210 6) ∧ (M 210 6) < 60 then (if inR (M 214 (M 210 6).toNat) then (if (M 214 (M 210 6).toNat) < 48 then (f_X5_isDigit_b43 M) else (if 57 < (M 214 (M 210 6).toNat) then (f_X5_isDigit_b43 M) else (f_X5_isDigit_b44 1 M))) else none) else none)) else none) else none
def f_X5_parseNumber_b59 (v2 : Int) (M : Mem) : Option (Int × Mem) :=
  some (v2, M)
def f_X5_parseNumber_b17 : Nat → Int → Int → Int → Mem → Option (Int × Mem)
  | 0, _, _, _, _ => none
  | n + 1, v1, v2, v3, M => if inR v3 then (if inR v1 then (if v1 ≤ v3 then (f_X5_parseNumber_b59 v2 M) else (if inR v2 then (if v2 ≤ 0 then (f_X5_parseNumber_b59 v2 M) else (zbnd (f_X5_isDigit M) fun r8 M9 => if inR r8 then (if r8 = 0 then (f_X5_parseNumber_b59 v2 M9) else (zbnd (f_X5_digit M9) fun r12 M13 => zlt ((v2 * 10) + r12) fun x15 => zlt (wr M13 210 6 ((M13 210 6) + 1)) fun M16 => f_X5_parseNumber_b17 n v1 x15 (v3 + 1) M16)) else none)) else none)) else none) else none
def f_X5_parseNumber (v1 : Int) (M : Mem) : Option (Int × Mem) :=
  zbnd (f_X5_digit M) fun r1 M2 => zlt (wr M2 210 6 ((M2 210 6) + 1)) fun M4 => f_X5_parseNumber_b17 100000 v1 r1 1 M4
def f_X5_skip_b36 (M : Mem) : Option (Int × Mem) :=
  some (0, M)
def f_X5_skip (v1 : Int) (M : Mem) : Option (Int × Mem) :=
  if inR (M 210 6) then (if inR (M 210 0) then (if (M 210 0) ≤ (M 210 6) then (f_X5_skip_b36 M) else (if 0 ≤ (M 210 6) ∧ (M 210 6) < 60 then (if inR (M 214 (M 210 6).toNat) then (if inR v1 then (if (M 214 (M 210 6).toNat) = v1 then (zlt (wr M 210 6 ((M 210 6) + 1)) fun M6 => some (1, M6)) else (f_X5_skip_b36 M)) else none) else none) else none)) else none) else none
def f_X5_parseRequest_b16 (M : Mem) : Option (Int × Mem) :=
  some (0, M)
def f_X5_parseRequest_b54 (M : Mem) : Option (Int × Mem) :=
  some (0, M)
def f_X5_parseRequest_b103 (M : Mem) : Option (Int × Mem) :=
  some (1, M)
def f_X5_parseRequest (v1 : Int) (M : Mem) : Option (Int × Mem) :=
  zbnd (f_X5_isDigit M) fun r1 M2 => if inR r1 then (if r1 = 0 then (f_X5_parseRequest_b16 M2) else (zbnd (f_X5_digit M2) fun r5 M6 => if inR r5 then (if r5 < 6 then (zbnd (f_X5_digit M6) fun r9 M10 => if 0 ≤ v1 ∧ v1 < 16 then (zlt (wr M10 211 v1.toNat r9) fun M13 => zlt (wr M13 210 6 ((M13 210 6) + 1)) fun M14 => zbnd (f_X5_skip 58 M14) fun r15 M16 => if inR r15 then (if r15 = 0 then (f_X5_parseRequest_b54 M16) else (zbnd (f_X5_isDigit M16) fun r19 M20 => if inR r19 then (if r19 = 0 then (f_X5_parseRequest_b54 M20) else (zbnd (f_X5_parseNumber 3 M20) fun r23 M24 => zlt (wr M24 212 v1.toNat r23) fun M26 => zlt (wr M26 213 v1.toNat (-1)) fun M27 => zbnd (f_X5_skip 61 M27) fun r28 M29 => if inR r28 then (if r28 = 0 then (f_X5_parseRequest_b103 M29) else (zbnd (f_X5_isDigit M29) fun r32 M33 => if inR r32 then (if r32 = 0 then (some (0, M33)) else (zbnd (f_X5_parseNumber 4 M33) fun r36 M37 => zlt (wr M37 213 v1.toNat r36) fun M39 => f_X5_parseRequest_b103 M39)) else none)) else none)) else none)) else none) else none) else (f_X5_parseRequest_b16 M6)) else none)) else none
def f_X5_parse_b67 (M : Mem) : Option (Int × Mem) :=
  some (M 210 6, M)
def f_X5_parse_b10 : Nat → Mem → Option (Int × Mem)
  | 0, _ => none
  | n + 1, M => if inR (M 210 1) then (if 16 ≤ (M 210 1) then (f_X5_parse_b67 M) else (zbnd (f_X5_parseRequest (M 210 1) M) fun r4 M5 => if inR r4 then (if r4 = 0 then (f_X5_parse_b67 M5) else (zlt (wr M5 210 1 ((M5 210 1) + 1)) fun M8 => if inR (M8 210 6) then (if inR (M8 210 0) then (if (M8 210 6) = (M8 210 0) then (some ((-1), M8)) else (zbnd (f_X5_skip 44 M8) fun r11 M12 => if inR r11 then (if r11 = 0 then (some (M12 210 6, M12)) else (f_X5_parse_b10 n M12)) else none)) else none) else none)) else none)) else none
def f_X5_parse (M : Mem) : Option (Int × Mem) :=
  zlt (wr M 210 6 0) fun M1 => zlt (wr M1 210 1 0) fun M2 => f_X5_parse_b10 100000 M2
def f_X9_readRequests_b62 (M : Mem) : Option (Int × Mem) :=
  some ((-1), M)
def f_X9_readRequests_b85 : Nat → Int → Int → Mem → Option (Int × Mem)
  | 0, _, _, _ => none
  | n + 1, v2, v3, M => if inR v3 then (if inR (M 210 1) then (if (M 210 1) ≤ v3 then (some (v2, M)) else (if 0 ≤ v3 ∧ v3 < 16 then (zbnd (f_X9_serve (M 211 v3.toNat) (M 212 v3.toNat) (M 213 v3.toNat) M) fun r26 M27 => zlt (v2 + r26) fun x29 => f_X9_readRequests_b85 n x29 (v3 + 1) M27) else none)) else none) else none
def f_X9_readRequests_b20 : Nat → Int → Mem → Option (Int × Mem)
  | 0, _, _ => none
  | n + 1, v2, M => if inR v2 then (if inR (M 210 1) then (if (M 210 1) ≤ v2 then (zbnd (f_X1_store 1 M) fun r8 M9 => f_X9_readRequests_b85 100000 0 0 M9) else (if 0 ≤ v2 ∧ v2 < 16 then (zbnd (f_X9_isReader (M 211 v2.toNat) M) fun r12 M13 => if inR r12 then (if r12 = 0 then (f_X9_readRequests_b62 M13) else (zbnd (f_X9_isKey (M13 212 v2.toNat) M13) fun r16 M17 => if inR r16 then (if r16 = 0 then (f_X9_readRequests_b62 M17) else (f_X9_readRequests_b20 n (v2 + 1) M17)) else none)) else none) else none)) else none) else none
def f_X9_readRequests (M : Mem) : Option (Int × Mem) :=
  zbnd (f_X5_parse M) fun r1 M2 => if inR r1 then (if r1 = (-1) then (f_X9_readRequests_b20 100000 0 M2) else (some ((-100) - r1, M2))) else none
def f_X9_reader (v1 : Int) (v2 : Int) (M : Mem) : Option (Int × Mem) :=
  zbnd (f_X9_isReader v1 M) fun r1 M2 => if inR r1 then (if r1 = 0 then (some ((-1), M2)) else (if inR v2 then (if v2 = 0 then (if 0 ≤ v1 ∧ v1 < 6 then (some (M2 23 v1.toNat, M2)) else none) else if v2 = 1 then (if 0 ≤ v1 ∧ v1 < 6 then (some (M2 24 v1.toNat, M2)) else none) else if v2 = 2 then (if 0 ≤ v1 ∧ v1 < 6 then (some (M2 25 v1.toNat, M2)) else none) else if v2 = 3 then (if 0 ≤ v1 ∧ v1 < 6 then (some (M2 26 v1.toNat, M2)) else none) else if v2 = 4 then (if 0 ≤ v1 ∧ v1 < 6 then (some (M2 27 v1.toNat, M2)) else none) else (some ((-2), M2))) else none)) else none
def f_X9_remembered_b15 (M : Mem) : Option (Int × Mem) :=
  some ((-1), M)
def f_X9_remembered (v1 : Int) (v2 : Int) (M : Mem) : Option (Int × Mem) :=
  zbnd (f_X9_isReader v1 M) fun r1 M2 => if inR r1 then (if r1 = 0 then (f_X9_remembered_b15 M2) else (zbnd (f_X9_isShard v2 M2) fun r5 M6 => if inR r5 then (if r5 = 0 then (f_X9_remembered_b15 M6) else (zbnd (f_X9_cell v1 v2 M6) fun r9 M10 => if 0 ≤ r9 ∧ r9 < 96 then (some (M10 28 r9.toNat, M10)) else none)) else none)) else none
def f_X9_request_b15 (M : Mem) : Option (Int × Mem) :=
  some ((-1), M)
def f_X9_request (v1 : Int) (v2 : Int) (M : Mem) : Option (Int × Mem) :=
  zbnd (f_X9_isReader v1 M) fun r1 M2 => if inR r1 then (if r1 = 0 then (f_X9_request_b15 M2) else (zbnd (f_X9_isKey v2 M2) fun r5 M6 => if inR r5 then (if r5 = 0 then (f_X9_request_b15 M6) else (zbnd (f_X1_store 1 M6) fun r9 M10 => zbnd (f_X9_serve v1 v2 (-1) M10) fun r12 M13 => some (r12, M13))) else none)) else none
def f_X9_restore (M : Mem) : Option (Int × Mem) :=
  if inR (M 0 6) then (if (M 0 6) = 0 then (some ((-5), M)) else (zbnd (f_X1_store 1 M) fun r2 M3 => zbnd (f_X7_copyFrom 1 59 M3) fun r5 M6 => some (M6 1 0, M6))) else none
def f_X9_set (v1 : Int) (v2 : Int) (M : Mem) : Option (Int × Mem) :=
  zbnd (f_X9_isWithin v1 0 5 M) fun r1 M2 => if inR r1 then (if r1 = 0 then (some ((-2), M2)) else (if 0 ≤ v1 ∧ v1 < 6 then (zbnd (f_X9_isWithin v2 (zR0 v1.toNat) (zR1 v1.toNat) M2) fun r8 M9 => if inR r8 then (if r8 = 0 then (some ((-2), M9)) else (zlt (M9 2 v1.toNat) fun x12 => if inR x12 then (if inR v2 then (if x12 = v2 then (some ((-5), M9)) else (zbnd (f_X1_store 1 M9) fun r15 M16 => zlt (wr M16 2 v1.toNat v2) fun M18 => some (x12, M18))) else none) else none)) else none) else none)) else none
def f_X2_forgetPosted_b2 (k : Nat) : Nat → Int → Int → Mem → Option (Int × Mem)
  | 0, _, _, _ => none
  | n + 1, v1, v2, M => if inR v2 then (if 16 ≤ v2 then (some (0, M)) else (zbnd (f_X9_cell v1 v2 M) fun r3 M4 => if 0 ≤ r3 ∧ r3 < 128 then (zlt (wr M4 (k + 6) r3.toNat (-5)) fun M7 => f_X2_forgetPosted_b2 k n v1 (v2 + 1) M7) else none)) else none
def f_X2_forgetPosted (k : Nat) (v1 : Int) (M : Mem) : Option (Int × Mem) :=
  f_X2_forgetPosted_b2 k 100000 v1 0 M
def f_X9_setInn (v1 : Int) (v2 : Int) (M : Mem) : Option (Int × Mem) :=
  zbnd (f_X9_isPasture v1 M) fun r1 M2 => if inR r1 then (if r1 = 0 then (some ((-1), M2)) else (if 0 ≤ v1 ∧ v1 < 8 then (if inR (M2 9 v1.toNat) then (if inR v2 then (if (M2 9 v1.toNat) = v2 then (some ((-5), M2)) else (zbnd (f_X1_store 1 M2) fun r8 M9 => if v2 = 0 ∨ v2 = 1 then (zlt (wr M9 9 v1.toNat v2) fun M12 => zbnd (f_X2_forgetPosted 4 v1 M12) fun r13 M14 => zbnd (f_X2_inns 4 M14) fun r16 M17 => some (r16, M17)) else none)) else none) else none) else none)) else none
def f_X9_setRoom (v1 : Int) (v2 : Int) (M : Mem) : Option (Int × Mem) :=
  zbnd (f_X9_isPasture v1 M) fun r1 M2 => if inR r1 then (if r1 = 0 then (some ((-1), M2)) else (zbnd (f_X9_isWithin v2 1 16 M2) fun r5 M6 => if inR r5 then (if r5 = 0 then (some ((-2), M6)) else (if 0 ≤ v1 ∧ v1 < 8 then (if inR (M6 7 v1.toNat) then (if inR v2 then (if (M6 7 v1.toNat) ≤ v2 then (zlt (M6 6 v1.toNat) fun x12 => if inR x12 then (if x12 = v2 then (some ((-5), M6)) else (zbnd (f_X1_store 1 M6) fun r14 M15 => zlt (wr M15 6 v1.toNat v2) fun M17 => some (x12, M17))) else none) else (some ((-4), M6))) else none) else none) else none)) else none)) else none
def f_X9_setSeason_b19 (M : Mem) : Option (Int × Mem) :=
  some ((-2), M)
def f_X9_setSeason (v1 : Int) (v2 : Int) (M : Mem) : Option (Int × Mem) :=
  zbnd (f_X9_isWithin v1 0 3 M) fun r1 M2 => if inR r1 then (if r1 = 0 then (f_X9_setSeason_b19 M2) else (zbnd (f_X9_isWithin v2 0 90 M2) fun r5 M6 => if inR r5 then (if r5 = 0 then (f_X9_setSeason_b19 M6) else (if 0 ≤ v1 ∧ v1 < 4 then (zlt (M6 3 v1.toNat) fun x10 => if inR x10 then (if inR v2 then (if x10 = v2 then (some ((-5), M6)) else (zbnd (f_X1_store 1 M6) fun r13 M14 => zlt (wr M14 3 v1.toNat v2) fun M16 => some (x10, M16))) else none) else none) else none)) else none)) else none
def f_X0_placeByHeat_b22 (g4 : Int → Int → Int → Mem → Option (Int × Mem)) (k : Nat) (v1 : Int) (v2 : Int) (v3 : Int) (M : Mem) : Option (Int × Mem) :=
  g4 v1 v2 (v3 + 1) M
def f_X0_placeByHeat_b4 (k : Nat) : Nat → Int → Int → Int → Mem → Option (Int × Mem)
  | 0, _, _, _, _ => none
  | n + 1, v1, v2, v3, M => if inR v3 then (if 16 ≤ v3 then (some (v2, M)) else (zbnd (f_X0_isAskedBefore k v3 v1 M) fun r2 M3 => if inR r2 then (if r2 = 0 then (f_X0_placeByHeat_b22 (f_X0_placeByHeat_b4 k n) k v1 v2 v3 M3) else (f_X0_placeByHeat_b22 (f_X0_placeByHeat_b4 k n) k v1 (v2 + 1) v3 M3)) else none)) else none
def f_X0_placeByHeat (k : Nat) (v1 : Int) (M : Mem) : Option (Int × Mem) :=
  f_X0_placeByHeat_b4 k 100000 v1 0 0 M
def f_X0_sumOfValues_b4 (k : Nat) : Nat → Int → Int → Int → Mem → Option (Int × Mem)
  | 0, _, _, _, _ => none
  | n + 1, v1, v2, v3, M => if inR v3 then (if 16 ≤ v3 then (some (v2, M)) else (if 0 ≤ ((v1 * 16) + v3) ∧ ((v1 * 16) + v3) < 256 then (zlt (v2 + (M (k + 4) ((v1 * 16) + v3).toNat)) fun x4 => f_X0_sumOfValues_b4 k n v1 x4 (v3 + 1) M) else none)) else none
def f_X0_sumOfValues (k : Nat) (v1 : Int) (M : Mem) : Option (Int × Mem) :=
  f_X0_sumOfValues_b4 k 100000 v1 0 0 M
def f_X8_countOf_b22 (g4 : Int → Int → Int → Mem → Option (Int × Mem)) (k : Nat) (v1 : Int) (v2 : Int) (v3 : Int) (M : Mem) : Option (Int × Mem) :=
  g4 v1 v2 (v3 + 1) M
def f_X8_countOf_b4 (k : Nat) : Nat → Int → Int → Int → Mem → Option (Int × Mem)
  | 0, _, _, _, _ => none
  | n + 1, v1, v2, v3, M => if inR v3 then (if 8 ≤ v3 then (some (v2, M)) else (zbnd (f_X8_isAt k v3 v1 M) fun r2 M3 => if inR r2 then (if r2 = 0 then (f_X8_countOf_b22 (f_X8_countOf_b4 k n) k v1 v2 v3 M3) else (f_X8_countOf_b22 (f_X8_countOf_b4 k n) k v1 (v2 + 1) v3 M3)) else none)) else none
def f_X8_countOf (k : Nat) (v1 : Int) (M : Mem) : Option (Int × Mem) :=
  f_X8_countOf_b4 k 100000 v1 0 0 M
def f_X9_shard (v1 : Int) (v2 : Int) (M : Mem) : Option (Int × Mem) :=
  zbnd (f_X9_isShard v1 M) fun r1 M2 => if inR r1 then (if r1 = 0 then (some ((-1), M2)) else (if inR v2 then (if v2 = 0 then (if 0 ≤ v1 ∧ v1 < 16 then (some (M2 15 v1.toNat, M2)) else none) else if v2 = 1 then (if 0 ≤ v1 ∧ v1 < 16 then (some (M2 16 v1.toNat, M2)) else none) else if v2 = 2 then (if 0 ≤ v1 ∧ v1 < 16 then (some (M2 17 v1.toNat, M2)) else none) else if v2 = 3 then (zbnd (f_X8_countOf 11 v1 M2) fun r12 M13 => some (r12, M13)) else if v2 = 4 then (zbnd (f_X0_placeByHeat 14 v1 M2) fun r16 M17 => some (r16, M17)) else if v2 = 5 then (if 0 ≤ v1 ∧ v1 < 16 then (zbnd (f_X7_seasonLatitude 1 M2) fun r21 M22 => zbnd (f_X2_bestOther 4 (M2 15 v1.toNat) r21 M22) fun r24 M25 => some (r24, M25)) else none) else if v2 = 6 then (zbnd (f_X0_sumOfValues 14 v1 M2) fun r28 M29 => some (r28, M29)) else (some ((-2), M2))) else none)) else none
def f_X9_track_b15 (M : Mem) : Option (Int × Mem) :=
  some ((-1), M)
def f_X9_track_b97 (t1 : Int) (M : Mem) : Option (Int × Mem) :=
  some (t1, M)
def f_X9_track (v1 : Int) (v2 : Int) (v3 : Int) (M : Mem) : Option (Int × Mem) :=
  zbnd (f_X9_isPasture v1 M) fun r1 M2 => if inR r1 then (if r1 = 0 then (f_X9_track_b15 M2) else (zbnd (f_X9_isShard v2 M2) fun r5 M6 => if inR r5 then (if r5 = 0 then (f_X9_track_b15 M6) else (if inR v3 then (if v3 = 0 then (zbnd (f_X9_cell v1 v2 M6) fun r10 M11 => if 0 ≤ r10 ∧ r10 < 128 then (some (M11 12 r10.toNat, M11)) else none) else if v3 = 1 then (zbnd (f_X8_isAt 11 v1 v2 M6) fun r15 M16 => if inR r15 then (if r15 = 0 then (f_X9_track_b97 (-5) M16) else (zbnd (f_X9_cell v1 v2 M16) fun r19 M20 => if 0 ≤ r19 ∧ r19 < 128 then (f_X9_track_b97 (M20 13 r19.toNat) M20) else none)) else none) else if v3 = 2 then (zbnd (f_X9_cell v1 v2 M6) fun r25 M26 => if 0 ≤ r25 ∧ r25 < 128 then (some (M26 10 r25.toNat, M26)) else none) else (some ((-2), M6))) else none)) else none)) else none
def f_X5_append_b29 (M : Mem) : Option (Int × Mem) :=
  some (0, M)
def f_X5_append (v1 : Int) (M : Mem) : Option (Int × Mem) :=
  if inR (M 210 0) then (if 60 ≤ (M 210 0) then (f_X5_append_b29 M) else (if 0 ≤ (M 210 0) ∧ (M 210 0) < 60 then (if 0 ≤ v1 ∧ v1 < 65536 then (zlt (wr M 214 (M 210 0).toNat v1) fun M4 => zlt (wr M4 210 0 ((M4 210 0) + 1)) fun M5 => f_X5_append_b29 M5) else none) else none)) else none
def f_X9_type (v1 : Int) (M : Mem) : Option (Int × Mem) :=
  if inR (M 210 0) then (if (M 210 0) < 60 then (zbnd (f_X5_append v1 M) fun r2 M3 => some (M3 210 0, M3)) else (some ((-3), M))) else none
def f_X1_takeBack_b37 (k1 : Nat) (M : Mem) : Option (Int × Mem) :=
  some (0, M)
def f_X1_takeBack (k1 : Nat) (M : Mem) : Option (Int × Mem) :=
  if inR (M 88 0) then (if (M 88 0) ≤ 0 then (f_X1_takeBack_b37 k1 M) else (zlt (wr M 88 0 ((M 88 0) - 1)) fun M2 => if inR ((M2 88 1) + (M2 88 0)) then (if 0 ≤ (((M2 88 1) + (M2 88 0)).tmod 4) ∧ (((M2 88 1) + (M2 88 0)).tmod 4) < 4 then (zbnd (f_X7_copyFrom k1 (90 + 29 * (((M2 88 1) + (M2 88 0)).tmod 4).toNat) M2) fun r5 M6 => f_X1_takeBack_b37 k1 M6) else none) else none)) else none
def f_X9_undo (M : Mem) : Option (Int × Mem) :=
  if inR (M 88 0) then (if 1 ≤ (M 88 0) then (zbnd (f_X1_takeBack 1 M) fun r2 M3 => some (M3 88 0, M3)) else (some ((-5), M))) else none
def f_X9_value_b23 (t1 : Int) (M : Mem) : Option (Int × Mem) :=
  some (t1, M)
def f_X9_value (v1 : Int) (M : Mem) : Option (Int × Mem) :=
  zbnd (f_X9_isKey v1 M) fun r1 M2 => if inR r1 then (if r1 = 0 then (f_X9_value_b23 (-1) M2) else (if 0 ≤ v1 ∧ v1 < 256 then (f_X9_value_b23 (M2 18 v1.toNat) M2) else none)) else none
def f_X9_way_b15 (M : Mem) : Option (Int × Mem) :=
  some ((-1), M)
def f_X9_way_b65 (t1 : Int) (M : Mem) : Option (Int × Mem) :=
  some (t1, M)
def f_X9_way (v1 : Int) (v2 : Int) (v3 : Int) (M : Mem) : Option (Int × Mem) :=
  zbnd (f_X9_isReader v1 M) fun r1 M2 => if inR r1 then (if r1 = 0 then (f_X9_way_b15 M2) else (zbnd (f_X9_isKey v2 M2) fun r5 M6 => if inR r5 then (if r5 = 0 then (f_X9_way_b15 M6) else (if inR v3 then (if 0 ≤ v3 then (if inR v2 then (zbnd (f_X6_find 1 v1 (v2.tdiv 16) M6) fun r11 M12 => if inR (M12 206 5) then (if (M12 206 5) ≤ v3 then (f_X9_way_b65 (-5) M12) else (if 0 ≤ v3 ∧ v3 < 137 then (f_X9_way_b65 (M12 207 v3.toNat) M12) else none)) else none) else none) else (some ((-2), M6))) else none)) else none)) else none
def f_X9_write_b15 (M : Mem) : Option (Int × Mem) :=
  some ((-1), M)
def f_X9_write (v1 : Int) (v2 : Int) (v3 : Int) (M : Mem) : Option (Int × Mem) :=
  zbnd (f_X9_isReader v1 M) fun r1 M2 => if inR r1 then (if r1 = 0 then (f_X9_write_b15 M2) else (zbnd (f_X9_isKey v2 M2) fun r5 M6 => if inR r5 then (if r5 = 0 then (f_X9_write_b15 M6) else (zbnd (f_X9_isWithin v3 0 9999 M6) fun r9 M10 => if inR r9 then (if r9 = 0 then (some ((-2), M10)) else (zbnd (f_X1_store 1 M10) fun r13 M14 => zbnd (f_X9_serve v1 v2 v3 M14) fun r16 M17 => some (r16, M17))) else none)) else none)) else none
def f_X10_in_b15 (t1 : Int) (M : Mem) : Option (Int × Mem) :=
  if t1 = 0 ∨ t1 = 1 then (some (t1, M)) else none
def f_X10_in_b14 (M : Mem) : Option (Int × Mem) :=
  f_X10_in_b15 0 M
def f_X10_in (v0 : Int) (v1 : Int) (v2 : Int) (M : Mem) : Option (Int × Mem) :=
  if inR v0 then (if inR v1 then (if v0 < v1 then (f_X10_in_b14 M) else (if inR v2 then (if v2 < v0 then (f_X10_in_b14 M) else (f_X10_in_b15 1 M)) else none)) else none) else none
def f_X10_copy_b2 : Nat → Int → Int → Int → Mem → Option (Int × Mem)
  | 0, _, _, _, _ => none
  | n + 1, v1, v2, v3, M => if inR v3 then (if 871 ≤ v3 then (some (0, M)) else (if 0 ≤ (v1 + v3) ∧ (v1 + v3) < 6097 then (if 0 ≤ (v2 + v3) ∧ (v2 + v3) < 6097 then (zlt (wr M 216 (v2 + v3).toNat (M 216 (v1 + v3).toNat)) fun M4 => f_X10_copy_b2 n v1 v2 (v3 + 1) M4) else none) else none)) else none
def f_X10_copy (v1 : Int) (v2 : Int) (M : Mem) : Option (Int × Mem) :=
  f_X10_copy_b2 100000 v1 v2 0 M
def f_X10_record_b49 (M : Mem) : Option (Int × Mem) :=
  zbnd (f_X10_copy 0 (871 + (871 * (M 215 1))) M) fun r3 M4 => zlt (wr M4 215 1 ((M4 215 1) + 1)) fun M6 => some (0, M6)
def f_X10_record_b10 : Nat → Int → Mem → Option (Int × Mem)
  | 0, _, _ => none
  | n + 1, v1, M => if inR v1 then (if 4 ≤ v1 then (zlt (wr M 215 1 ((M 215 1) - 1)) fun M8 => f_X10_record_b49 M8) else (zbnd (f_X10_copy (871 + (871 * v1)) (871 * v1) M) fun r9 M10 => f_X10_record_b10 n (v1 + 1) M10)) else none
def f_X10_record (M : Mem) : Option (Int × Mem) :=
  if inR (M 215 1) then (if (M 215 1) = 4 then (f_X10_record_b10 100000 1 M) else (f_X10_record_b49 M)) else none
def f_X10_addPasture_b20 (M : Mem) : Option (Int × Mem) :=
  some ((-2), M)
def f_X10_addPasture_b100 (v4 : Int) (t3 : Int) (t2 : Int) (M : Mem) : Option (Int × Mem) :=
  if 0 ≤ t2 ∧ t2 < 6097 then (zlt (wr M 216 t2.toNat t3) fun M24 => zlt (wr M24 216 863 ((M24 216 863) + 1)) fun M25 => some (v4, M25)) else none
def f_X10_addPasture (v1 : Int) (v2 : Int) (v3 : Int) (M : Mem) : Option (Int × Mem) :=
  zbnd (f_X10_in v1 0 90 M) fun r1 M2 => if inR r1 then (if r1 = 0 then (f_X10_addPasture_b20 M2) else (zbnd (f_X10_in v2 1 16 M2) fun r5 M6 => if inR r5 then (if r5 = 0 then (f_X10_addPasture_b20 M6) else (if inR (M6 216 863) then (if (M6 216 863) = 8 then (some ((-3), M6)) else (zbnd (f_X10_record M6) fun r10 M11 => zlt (M11 216 863) fun x13 => if 0 ≤ (0 + (4 * x13)) ∧ (0 + (4 * x13)) < 6097 then (zlt (wr M11 216 (0 + (4 * x13)).toNat v1) fun M15 => if 0 ≤ ((0 + (4 * x13)) + 1) ∧ ((0 + (4 * x13)) + 1) < 6097 then (zlt (wr M15 216 ((0 + (4 * x13)) + 1).toNat v2) fun M17 => if inR v3 then (if v3 = 0 then (f_X10_addPasture_b100 x13 0 ((0 + (4 * x13)) + 2) M17) else (f_X10_addPasture_b100 x13 1 ((0 + (4 * x13)) + 2) M17)) else none) else none) else none)) else none)) else none)) else none
def f_X10_isPasture (v1 : Int) (M : Mem) : Option (Int × Mem) :=
  zbnd (f_X10_in v1 0 ((M 216 863) - 1) M) fun r1 M2 => if r1 = 0 ∨ r1 = 1 then (some (r1, M2)) else none
def f_X10_addReader_b54 : Nat → Int → Int → Int → Mem → Option (Int × Mem)
  | 0, _, _, _, _ => none
  | n + 1, v1, v2, v3, M => if inR v3 then (if 16 ≤ v3 then (zlt (wr M 216 865 ((M 216 865) + 1)) fun M15 => some (v2, M15)) else (if 0 ≤ ((756 + (16 * v2)) + v3) ∧ ((756 + (16 * v2)) + v3) < 6097 then (zlt (wr M 216 ((756 + (16 * v2)) + v3).toNat v1) fun M17 => f_X10_addReader_b54 n v1 v2 (v3 + 1) M17) else none)) else none
def f_X10_addReader (v1 : Int) (M : Mem) : Option (Int × Mem) :=
  zbnd (f_X10_isPasture v1 M) fun r1 M2 => if inR r1 then (if r1 = 0 then (some ((-1), M2)) else (if inR (M2 216 865) then (if (M2 216 865) = 6 then (some ((-3), M2)) else (zbnd (f_X10_record M2) fun r6 M7 => zlt (M7 216 865) fun x9 => if 0 ≤ (726 + (5 * x9)) ∧ (726 + (5 * x9)) < 6097 then (zlt (wr M7 216 (726 + (5 * x9)).toNat v1) fun M11 => f_X10_addReader_b54 100000 v1 x9 0 M11) else none)) else none)) else none
def f_X10_addWolf (v1 : Int) (v2 : Int) (M : Mem) : Option (Int × Mem) :=
  zbnd (f_X10_isPasture v1 M) fun r1 M2 => if inR r1 then (if r1 = 0 then (some ((-1), M2)) else (zbnd (f_X10_in v2 1 7 M2) fun r5 M6 => if inR r5 then (if r5 = 0 then (some ((-2), M6)) else (if inR (M6 216 864) then (if (M6 216 864) = 3 then (some ((-3), M6)) else (zbnd (f_X10_record M6) fun r10 M11 => if 0 ≤ (720 + (2 * (M11 216 864))) ∧ (720 + (2 * (M11 216 864))) < 6097 then (zlt (wr M11 216 (720 + (2 * (M11 216 864))).toNat v1) fun M14 => if 0 ≤ ((720 + (2 * (M14 216 864))) + 1) ∧ ((720 + (2 * (M14 216 864))) + 1) < 6097 then (zlt (wr M14 216 ((720 + (2 * (M14 216 864))) + 1).toNat v2) fun M16 => zlt (wr M16 216 864 ((M16 216 864) + 1)) fun M17 => some ((M17 216 864) - 1, M17)) else none) else none)) else none)) else none)) else none
def f_X10_isKey (v0 : Int) (M : Mem) : Option (Int × Mem) :=
  zbnd (f_X10_in v0 0 255 M) fun r1 M2 => if r1 = 0 ∨ r1 = 1 then (some (r1, M2)) else none
def f_X10_isReader (v1 : Int) (M : Mem) : Option (Int × Mem) :=
  zbnd (f_X10_in v1 0 ((M 216 865) - 1) M) fun r1 M2 => if r1 = 0 ∨ r1 = 1 then (some (r1, M2)) else none
def f_X10_nextBehind_b27 (v2 : Int) (M : Mem) : Option (Int × Mem) :=
  some (v2 + 1, M)
def f_X10_nextBehind_b2 : Nat → Int → Mem → Option (Int × Mem)
  | 0, _, _ => none
  | n + 1, v2, M => if inR v2 then (if inR (M 215 4) then (if (M 215 4) ≤ v2 then (f_X10_nextBehind_b27 v2 M) else (if 0 ≤ v2 ∧ v2 < 60 then (if inR (M 217 v2.toNat) then (if (M 217 v2.toNat) = 44 then (f_X10_nextBehind_b27 v2 M) else (f_X10_nextBehind_b2 n (v2 + 1) M)) else none) else none)) else none) else none
def f_X10_nextBehind (v1 : Int) (M : Mem) : Option (Int × Mem) :=
  f_X10_nextBehind_b2 100000 v1 M
def f_X10_numberAt_b49 (v2 : Int) (M : Mem) : Option (Int × Mem) :=
  some (v2, M)
def f_X10_numberAt_b4 : Nat → Int → Int → Mem → Option (Int × Mem)
  | 0, _, _, _ => none
  | n + 1, v2, v3, M => if inR v3 then (if inR (M 215 4) then (if (M 215 4) ≤ v3 then (f_X10_numberAt_b49 v2 M) else (if 0 ≤ v3 ∧ v3 < 60 then (zbnd (f_X10_in (M 217 v3.toNat) 48 57 M) fun r4 M5 => if inR r4 then (if r4 = 0 then (f_X10_numberAt_b49 v2 M5) else (zlt (((10 * v2) + (M5 217 v3.toNat)) - 48) fun x8 => f_X10_numberAt_b4 n x8 (v3 + 1) M5)) else none) else none)) else none) else none
def f_X10_numberAt (v1 : Int) (M : Mem) : Option (Int × Mem) :=
  f_X10_numberAt_b4 100000 0 v1 M
def f_X10_areKnown_b50 (g4 : Int → Int → Mem → Option (Int × Mem)) (v2 : Int) (t1 : Int) (M : Mem) : Option (Int × Mem) :=
  zbnd (f_X10_nextBehind v2 M) fun r21 M22 => g4 t1 r21 M22
def f_X10_areKnown_b49 (g4 : Int → Int → Mem → Option (Int × Mem)) (v2 : Int) (M : Mem) : Option (Int × Mem) :=
  f_X10_areKnown_b50 g4 v2 0 M
def f_X10_areKnown_b4 : Nat → Int → Int → Mem → Option (Int × Mem)
  | 0, _, _, _ => none
  | n + 1, v1, v2, M => if inR v2 then (if inR (M 215 4) then (if (M 215 4) ≤ v2 then (if v1 = 0 ∨ v1 = 1 then (some (v1, M)) else none) else (if inR v1 then (if v1 = 0 then (f_X10_areKnown_b49 (f_X10_areKnown_b4 n) v2 M) else (if 0 ≤ v2 ∧ v2 < 60 then (zbnd (f_X10_isReader ((M 217 v2.toNat) - 48) M) fun r6 M7 => if inR r6 then (if r6 = 0 then (f_X10_areKnown_b49 (f_X10_areKnown_b4 n) v2 M7) else (zbnd (f_X10_numberAt (v2 + 2) M7) fun r10 M11 => zbnd (f_X10_isKey r10 M11) fun r13 M14 => if inR r13 then (if r13 = 0 then (f_X10_areKnown_b49 (f_X10_areKnown_b4 n) v2 M14) else (f_X10_areKnown_b50 (f_X10_areKnown_b4 n) v2 1 M14)) else none)) else none) else none)) else none)) else none) else none
def f_X10_areKnown (M : Mem) : Option (Int × Mem) :=
  f_X10_areKnown_b4 100000 1 0 M
def f_X10_at (v0 : Int) (v1 : Int) (v2 : Int) (M : Mem) : Option (Int × Mem) :=
  some ((v0 + (16 * v1)) + v2, M)
def f_X10_begin (v1 : Int) (M : Mem) : Option (Int × Mem) :=
  zlt (wr M 215 12 v1) fun M1 => zlt (wr M1 215 13 0) fun M2 => zlt (wr M2 215 14 0) fun M3 => some (0, M3)
def f_X10_bits_b4 : Nat → Int → Int → Int → Mem → Option (Int × Mem)
  | 0, _, _, _, _ => none
  | n + 1, v0, v1, v2, M => if inR v2 then (if 8 ≤ v2 then (some (v1, M)) else (zlt (v1 + (iand (ishr v0 v2) 1)) fun x2 => f_X10_bits_b4 n v0 x2 (v2 + 1) M)) else none
def f_X10_bits (v0 : Int) (M : Mem) : Option (Int × Mem) :=
  f_X10_bits_b4 100000 v0 0 0 M
def f_X10_clearText (M : Mem) : Option (Int × Mem) :=
  zlt (M 215 4) fun x1 => zlt (wr M 215 4 0) fun M2 => some (x1, M2)
def f_X10_comeTo (v1 : Int) (M : Mem) : Option (Int × Mem) :=
  if 0 ≤ (M 215 6) ∧ (M 215 6) < 160 then (zlt (wr M 218 (M 215 6).toNat v1) fun M2 => zlt (wr M2 215 6 ((M2 215 6) + 1)) fun M3 => some (0, M3)) else none
def f_X10_hasInn_b21 (t1 : Int) (M : Mem) : Option (Int × Mem) :=
  if t1 = 0 ∨ t1 = 1 then (some (t1, M)) else none
def f_X10_hasInn (v1 : Int) (M : Mem) : Option (Int × Mem) :=
  if 0 ≤ ((0 + (4 * v1)) + 2) ∧ ((0 + (4 * v1)) + 2) < 6097 then (if inR (M 216 ((0 + (4 * v1)) + 2).toNat) then (if (M 216 ((0 + (4 * v1)) + 2).toNat) = 1 then (f_X10_hasInn_b21 1 M) else (f_X10_hasInn_b21 0 M)) else none) else none
def f_X10_inns_b30 (g4 : Int → Int → Mem → Option (Int × Mem)) (v2 : Int) (t2 : Int) (t1 : Int) (M : Mem) : Option (Int × Mem) :=
  zlt (t1 + t2) fun x9 => g4 x9 (v2 + 1) M
def f_X10_inns_b4 : Nat → Int → Int → Mem → Option (Int × Mem)
  | 0, _, _, _ => none
  | n + 1, v1, v2, M => if inR v2 then (if inR (M 216 863) then (if (M 216 863) ≤ v2 then (some (v1, M)) else (zbnd (f_X10_hasInn v2 M) fun r3 M4 => if inR r3 then (if r3 = 0 then (f_X10_inns_b30 (f_X10_inns_b4 n) v2 0 v1 M4) else (f_X10_inns_b30 (f_X10_inns_b4 n) v2 1 v1 M4)) else none)) else none) else none
def f_X10_inns (M : Mem) : Option (Int × Mem) :=
  f_X10_inns_b4 100000 0 0 M
def f_X10_season (M : Mem) : Option (Int × Mem) :=
  if inR (M 216 862) then (if inR (M 216 856) then (if (M 216 856) ≠ 0 then (if inR ((M 216 862).tdiv (M 216 856)) then (some (((M 216 862).tdiv (M 216 856)).tmod 4, M)) else none) else none) else none) else none
def f_X10_hasTrack_b21 (t1 : Int) (M : Mem) : Option (Int × Mem) :=
  if t1 = 0 ∨ t1 = 1 then (some (t1, M)) else none
def f_X10_hasTrack (v1 : Int) (v2 : Int) (M : Mem) : Option (Int × Mem) :=
  zbnd (f_X10_at 160 v1 v2 M) fun r1 M2 => if 0 ≤ r1 ∧ r1 < 6097 then (if inR (M2 216 r1.toNat) then (if (M2 216 r1.toNat) ≤ 0 then (f_X10_hasTrack_b21 0 M2) else (f_X10_hasTrack_b21 1 M2)) else none) else none
def f_X10_tracksIn_b25 (g4 : Int → Int → Int → Mem → Option (Int × Mem)) (v1 : Int) (v3 : Int) (t2 : Int) (t1 : Int) (M : Mem) : Option (Int × Mem) :=
  zlt (t1 + t2) fun x8 => g4 v1 x8 (v3 + 1) M
def f_X10_tracksIn_b4 : Nat → Int → Int → Int → Mem → Option (Int × Mem)
  | 0, _, _, _, _ => none
  | n + 1, v1, v2, v3, M => if inR v3 then (if 16 ≤ v3 then (some (v2, M)) else (zbnd (f_X10_hasTrack v1 v3 M) fun r2 M3 => if inR r2 then (if r2 = 0 then (f_X10_tracksIn_b25 (f_X10_tracksIn_b4 n) v1 v3 0 v2 M3) else (f_X10_tracksIn_b25 (f_X10_tracksIn_b4 n) v1 v3 1 v2 M3)) else none)) else none
def f_X10_tracksIn (v1 : Int) (M : Mem) : Option (Int × Mem) :=
  f_X10_tracksIn_b4 100000 v1 0 0 M
def f_X10_tracks_b4 : Nat → Int → Int → Mem → Option (Int × Mem)
  | 0, _, _, _ => none
  | n + 1, v1, v2, M => if inR v2 then (if inR (M 216 863) then (if (M 216 863) ≤ v2 then (some (v1, M)) else (zbnd (f_X10_tracksIn v2 M) fun r3 M4 => zlt (v1 + r3) fun x6 => f_X10_tracks_b4 n x6 (v2 + 1) M4)) else none) else none
def f_X10_tracks (M : Mem) : Option (Int × Mem) :=
  f_X10_tracks_b4 100000 0 0 M
def f_X10_count (v1 : Int) (M : Mem) : Option (Int × Mem) :=
  if inR v1 then (if v1 = 0 then (some (M 216 862, M)) else if v1 = 1 then (zbnd (f_X10_season M) fun r3 M4 => some (r3, M4)) else if v1 = 2 then (zbnd (f_X10_season M) fun r7 M8 => if 0 ≤ (852 + r7) ∧ (852 + r7) < 6097 then (some (M8 216 (852 + r7).toNat, M8)) else none) else if v1 = 3 then (some (M 216 863, M)) else if v1 = 4 then (zbnd (f_X10_inns M) fun r13 M14 => some (r13, M14)) else if v1 = 5 then (some (M 216 864, M)) else if v1 = 6 then (some (M 216 865, M)) else if v1 = 7 then (zbnd (f_X10_tracks M) fun r19 M20 => some (r19, M20)) else if v1 = 8 then (some (M 216 866, M)) else if v1 = 9 then (some (M 216 867, M)) else if v1 = 10 then (some (M 216 868, M)) else if v1 = 11 then (some (M 216 869, M)) else if v1 = 12 then (some (M 216 870, M)) else if v1 = 13 then (some (M 215 1, M)) else if v1 = 14 then (some (M 215 4, M)) else (some ((-2), M))) else none
def f_X10_cutIn_b50 (v2 : Int) (M : Mem) : Option (Int × Mem) :=
  zlt (wr M 216 867 ((M 216 867) + v2)) fun M18 => some (v2, M18)
def f_X10_cutIn_b20 : Nat → Int → Int → Int → Mem → Option (Int × Mem)
  | 0, _, _, _, _ => none
  | n + 1, v1, v2, v3, M => if inR v3 then (if 16 ≤ v3 then (f_X10_cutIn_b50 v2 M) else (if inR v2 then (if v2 ≤ 0 then (f_X10_cutIn_b50 v2 M) else (zbnd (f_X10_at 160 v1 v3 M) fun r11 M12 => if 0 ≤ r11 ∧ r11 < 6097 then (zlt (wr M12 216 r11.toNat 0) fun M15 => f_X10_cutIn_b20 n v1 v2 (v3 + 1) M15) else none)) else none)) else none
def f_X10_cutIn_b17 (v1 : Int) (t1 : Int) (M : Mem) : Option (Int × Mem) :=
  f_X10_cutIn_b20 100000 v1 t1 0 M
def f_X10_cutIn (v1 : Int) (M : Mem) : Option (Int × Mem) :=
  zbnd (f_X10_hasInn v1 M) fun r1 M2 => if inR r1 then (if r1 = 0 then (zbnd (f_X10_tracksIn v1 M2) fun r5 M6 => f_X10_cutIn_b17 v1 r5 M6) else (f_X10_cutIn_b17 v1 0 M2)) else none
def f_X10_cut_b49 (M : Mem) : Option (Int × Mem) :=
  some ((-5), M)
def f_X10_cut (v1 : Int) (M : Mem) : Option (Int × Mem) :=
  zbnd (f_X10_in v1 0 ((M 216 864) - 1) M) fun r1 M2 => if inR r1 then (if r1 = 0 then (some ((-1), M2)) else (if 0 ≤ (720 + (2 * v1)) ∧ (720 + (2 * v1)) < 6097 then (zlt (M2 216 (720 + (2 * v1)).toNat) fun x6 => zbnd (f_X10_hasInn x6 M2) fun r7 M8 => if inR r7 then (if r7 = 0 then (zbnd (f_X10_tracksIn x6 M8) fun r11 M12 => if inR r11 then (if r11 = 0 then (f_X10_cut_b49 M12) else (zbnd (f_X10_record M12) fun r15 M16 => zbnd (f_X10_cutIn x6 M16) fun r18 M19 => some (r18, M19))) else none) else (f_X10_cut_b49 M8)) else none) else none)) else none
def f_X10_latitudeOf (v1 : Int) (M : Mem) : Option (Int × Mem) :=
  if 0 ≤ (0 + (4 * v1)) ∧ (0 + (4 * v1)) < 6097 then (some (M 216 (0 + (4 * v1)).toNat, M)) else none
def f_X10_distanceOf_b30 (t1 : Int) (M : Mem) : Option (Int × Mem) :=
  some (t1, M)
def f_X10_distanceOf (v1 : Int) (M : Mem) : Option (Int × Mem) :=
  zbnd (f_X10_latitudeOf v1 M) fun r1 M2 => zbnd (f_X10_season M2) fun r4 M5 => if 0 ≤ (852 + r4) ∧ (852 + r4) < 6097 then (zlt (r1 - (M5 216 (852 + r4).toNat)) fun x8 => if inR x8 then (if 0 ≤ x8 then (f_X10_distanceOf_b30 x8 M5) else (f_X10_distanceOf_b30 (-x8) M5)) else none) else none
def f_X10_go (v1 : Int) (v2 : Int) (M : Mem) : Option (Int × Mem) :=
  if 0 ≤ (416 + v1) ∧ (416 + v1) < 6097 then (zlt (M 216 (416 + v1).toNat) fun x2 => zbnd (f_X10_at 160 x2 v1 M) fun r3 M4 => if 0 ≤ r3 ∧ r3 < 6097 then (zlt (wr M4 216 r3.toNat (v2 + 1)) fun M7 => zbnd (f_X10_at 288 x2 v1 M7) fun r8 M9 => if 0 ≤ r8 ∧ r8 < 6097 then (zlt (wr M9 216 r8.toNat (M9 216 862)) fun M12 => zbnd (f_X10_at 160 v2 v1 M12) fun r13 M14 => if 0 ≤ r13 ∧ r13 < 6097 then (zlt (wr M14 216 r13.toNat 0) fun M17 => zlt (wr M17 216 (416 + v1).toNat v2) fun M18 => if 0 ≤ (448 + v1) ∧ (448 + v1) < 6097 then (zlt (wr M18 216 (448 + v1).toNat ((M18 216 (448 + v1).toNat) + 1)) fun M20 => zlt (wr M20 216 866 ((M20 216 866) + 1)) fun M21 => some (0, M21)) else none) else none) else none) else none) else none
def f_X10_roomOf (v1 : Int) (M : Mem) : Option (Int × Mem) :=
  if 0 ≤ ((0 + (4 * v1)) + 1) ∧ ((0 + (4 * v1)) + 1) < 6097 then (some (M 216 ((0 + (4 * v1)) + 1).toNat, M)) else none
def f_X10_shardsIn_b30 (g4 : Int → Int → Int → Mem → Option (Int × Mem)) (v1 : Int) (v3 : Int) (t2 : Int) (t1 : Int) (M : Mem) : Option (Int × Mem) :=
  zlt (t1 + t2) fun x7 => g4 v1 x7 (v3 + 1) M
def f_X10_shardsIn_b4 : Nat → Int → Int → Int → Mem → Option (Int × Mem)
  | 0, _, _, _, _ => none
  | n + 1, v1, v2, v3, M => if inR v3 then (if 16 ≤ v3 then (some (v2, M)) else (if 0 ≤ (416 + v3) ∧ (416 + v3) < 6097 then (if inR (M 216 (416 + v3).toNat) then (if inR v1 then (if (M 216 (416 + v3).toNat) = v1 then (f_X10_shardsIn_b30 (f_X10_shardsIn_b4 n) v1 v3 1 v2 M) else (f_X10_shardsIn_b30 (f_X10_shardsIn_b4 n) v1 v3 0 v2 M)) else none) else none) else none)) else none
def f_X10_shardsIn (v1 : Int) (M : Mem) : Option (Int × Mem) :=
  f_X10_shardsIn_b4 100000 v1 0 0 M
def f_X10_lookedAt_b80 (g5 : Int → Int → Int → Mem → Option (Int × Mem)) (v1 : Int) (v3 : Int) (t1 : Int) (M : Mem) : Option (Int × Mem) :=
  g5 v1 t1 (v3 + 1) M
def f_X10_lookedAt_b75 (g5 : Int → Int → Int → Mem → Option (Int × Mem)) (v1 : Int) (v3 : Int) (M : Mem) : Option (Int × Mem) :=
  f_X10_lookedAt_b80 g5 v1 v3 v3 M
def f_X10_lookedAt_b79 (g5 : Int → Int → Int → Mem → Option (Int × Mem)) (v1 : Int) (v2 : Int) (v3 : Int) (M : Mem) : Option (Int × Mem) :=
  f_X10_lookedAt_b80 g5 v1 v3 v2 M
def f_X10_lookedAt_b49 (g5 : Int → Int → Int → Mem → Option (Int × Mem)) (v1 : Int) (v2 : Int) (v3 : Int) (t1 : Int) (M : Mem) : Option (Int × Mem) :=
  if inR t1 then (if t1 = 0 then (f_X10_lookedAt_b79 g5 v1 v2 v3 M) else (if inR v2 then (if v2 = (-5) then (f_X10_lookedAt_b75 g5 v1 v3 M) else (zbnd (f_X10_distanceOf v3 M) fun r18 M19 => zbnd (f_X10_distanceOf v2 M19) fun r21 M22 => if inR r18 then (if inR r21 then (if r21 ≤ r18 then (f_X10_lookedAt_b79 g5 v1 v2 v3 M22) else (f_X10_lookedAt_b75 g5 v1 v3 M22)) else none) else none)) else none)) else none
def f_X10_lookedAt_b48 (g5 : Int → Int → Int → Mem → Option (Int × Mem)) (v1 : Int) (v2 : Int) (v3 : Int) (M : Mem) : Option (Int × Mem) :=
  f_X10_lookedAt_b49 g5 v1 v2 v3 0 M
def f_X10_lookedAt_b5 : Nat → Int → Int → Int → Mem → Option (Int × Mem)
  | 0, _, _, _, _ => none
  | n + 1, v1, v2, v3, M => if inR v3 then (if inR (M 216 863) then (if (M 216 863) ≤ v3 then (some (v2, M)) else (if 0 ≤ (416 + v1) ∧ (416 + v1) < 6097 then (if inR (M 216 (416 + v1).toNat) then (if v3 = (M 216 (416 + v1).toNat) then (f_X10_lookedAt_b48 (f_X10_lookedAt_b5 n) v1 v2 v3 M) else (zbnd (f_X10_shardsIn v3 M) fun r5 M6 => zbnd (f_X10_roomOf v3 M6) fun r8 M9 => if inR r5 then (if inR r8 then (if r8 ≤ r5 then (f_X10_lookedAt_b48 (f_X10_lookedAt_b5 n) v1 v2 v3 M9) else (f_X10_lookedAt_b49 (f_X10_lookedAt_b5 n) v1 v2 v3 1 M9)) else none) else none)) else none) else none)) else none) else none
def f_X10_lookedAt (v1 : Int) (M : Mem) : Option (Int × Mem) :=
  f_X10_lookedAt_b5 100000 v1 (-5) 0 M
def f_X10_orderOf_b67 (g4 : Int → Int → Int → Mem → Option (Int × Mem)) (v1 : Int) (v3 : Int) (t2 : Int) (t1 : Int) (M : Mem) : Option (Int × Mem) :=
  zlt (t1 + t2) fun x11 => g4 v1 x11 (v3 + 1) M
def f_X10_orderOf_b62 (g4 : Int → Int → Int → Mem → Option (Int × Mem)) (v1 : Int) (v3 : Int) (t1 : Int) (M : Mem) : Option (Int × Mem) :=
  f_X10_orderOf_b67 g4 v1 v3 1 t1 M
def f_X10_orderOf_b66 (g4 : Int → Int → Int → Mem → Option (Int × Mem)) (v1 : Int) (v3 : Int) (t1 : Int) (M : Mem) : Option (Int × Mem) :=
  f_X10_orderOf_b67 g4 v1 v3 0 t1 M
def f_X10_orderOf_b4 : Nat → Int → Int → Int → Mem → Option (Int × Mem)
  | 0, _, _, _, _ => none
  | n + 1, v1, v2, v3, M => if inR v3 then (if 16 ≤ v3 then (some (v2, M)) else (if 0 ≤ (432 + v3) ∧ (432 + v3) < 6097 then (if 0 ≤ (432 + v1) ∧ (432 + v1) < 6097 then (if inR (M 216 (432 + v3).toNat) then (if inR (M 216 (432 + v1).toNat) then (if (M 216 (432 + v1).toNat) < (M 216 (432 + v3).toNat) then (f_X10_orderOf_b62 (f_X10_orderOf_b4 n) v1 v3 v2 M) else (if inR v1 then (if v1 ≤ v3 then (f_X10_orderOf_b66 (f_X10_orderOf_b4 n) v1 v3 v2 M) else (if (M 216 (432 + v3).toNat) = (M 216 (432 + v1).toNat) then (f_X10_orderOf_b62 (f_X10_orderOf_b4 n) v1 v3 v2 M) else (f_X10_orderOf_b66 (f_X10_orderOf_b4 n) v1 v3 v2 M))) else none)) else none) else none) else none) else none)) else none
def f_X10_orderOf (v1 : Int) (M : Mem) : Option (Int × Mem) :=
  f_X10_orderOf_b4 100000 v1 0 0 M
def f_X10_drive_b94 (g11 : Int → Int → Mem → Option (Int × Mem)) (v1 : Int) (v2 : Int) (M : Mem) : Option (Int × Mem) :=
  g11 v1 (v2 + 1) M
def f_X10_drive_b23 (g11 : Int → Int → Mem → Option (Int × Mem)) : Nat → Int → Int → Int → Mem → Option (Int × Mem)
  | 0, _, _, _, _ => none
  | n + 1, v1, v2, v3, M => zbnd (f_X10_orderOf v3 M) fun r6 M7 => if inR r6 then (if inR v2 then (if r6 = v2 then (zbnd (f_X10_lookedAt v3 M7) fun r11 M12 => if inR r11 then (if r11 = (-5) then (f_X10_drive_b94 g11 v1 v2 M12) else (if 0 ≤ (416 + v3) ∧ (416 + v3) < 6097 then (zbnd (f_X10_distanceOf (M12 216 (416 + v3).toNat) M12) fun r16 M17 => zbnd (f_X10_distanceOf r11 M17) fun r19 M20 => if inR (r16 - r19) then (if inR (M20 216 858) then (if (r16 - r19) < (M20 216 858) then (f_X10_drive_b94 g11 v1 v2 M20) else (zbnd (f_X10_go v3 r11 M20) fun r24 M25 => f_X10_drive_b94 g11 (v1 + (-1)) v2 M25)) else none) else none) else none)) else none) else (f_X10_drive_b23 g11 n v1 v2 (v3 + 1) M7)) else none) else none
def f_X10_drive_b100 (M : Mem) : Option (Int × Mem) :=
  some (0, M)
def f_X10_drive_b11 : Nat → Int → Int → Mem → Option (Int × Mem)
  | 0, _, _, _ => none
  | n + 1, v1, v2, M => if inR v2 then (if 16 ≤ v2 then (f_X10_drive_b100 M) else (if inR v1 then (if v1 ≤ 0 then (f_X10_drive_b100 M) else (f_X10_drive_b23 (f_X10_drive_b11 n) 100000 v1 v2 0 M)) else none)) else none
def f_X10_drive (M : Mem) : Option (Int × Mem) :=
  zlt (M 216 859) fun x1 => f_X10_drive_b11 100000 x1 0 M
def f_X10_driveWolf (M : Mem) : Option (Int × Mem) :=
  if inR (M 216 864) then (if (M 216 864) = 0 then (some ((-5), M)) else (zbnd (f_X10_record M) fun r2 M3 => zlt (wr M3 216 864 ((M3 216 864) - 1)) fun M5 => some (M5 216 864, M5))) else none
def f_X10_read_b44 (t1 : Int) (M : Mem) : Option (Int × Mem) :=
  zbnd (f_X10_begin ((M 215 12) + 1) M) fun r32 M33 => if t1 = 0 ∨ t1 = 1 then (some (t1, M33)) else none
def f_X10_read_b15 (v1 : Int) (M : Mem) : Option (Int × Mem) :=
  if inR (M 215 12) then (if (M 215 12) = 0 then (zbnd (f_X10_in v1 48 53 M) fun r24 M25 => f_X10_read_b44 r24 M25) else (if inR v1 then (if v1 = 58 then (f_X10_read_b44 1 M) else (f_X10_read_b44 0 M)) else none)) else none
def f_X10_read_b113 (v2 : Int) (t2 : Int) (M : Mem) : Option (Int × Mem) :=
  if t2 = 0 ∨ t2 = 1 then (zlt (wr M 215 14 t2) fun M39 => zlt (wr M39 215 13 ((M39 215 13) + 1)) fun M40 => if v2 = 0 ∨ v2 = 1 then (some (v2, M40)) else none) else none
def f_X10_read_b112 (v2 : Int) (M : Mem) : Option (Int × Mem) :=
  f_X10_read_b113 v2 0 M
def f_X10_read_b93 (v1 : Int) (t1 : Int) (M : Mem) : Option (Int × Mem) :=
  if inR (M 215 13) then (if (M 215 13) = 0 then (if inR v1 then (if v1 = 48 then (f_X10_read_b113 t1 1 M) else (f_X10_read_b112 t1 M)) else none) else (f_X10_read_b112 t1 M)) else none
def f_X10_read_b92 (v1 : Int) (M : Mem) : Option (Int × Mem) :=
  f_X10_read_b93 v1 0 M
def f_X10_read_b173 (v2 : Int) (t2 : Int) (M : Mem) : Option (Int × Mem) :=
  zbnd (f_X10_begin t2 M) fun r42 M43 => if v2 = 0 ∨ v2 = 1 then (some (v2, M43)) else none
def f_X10_read_b160 (v1 : Int) (t1 : Int) (M : Mem) : Option (Int × Mem) :=
  if inR v1 then (if v1 = 61 then (f_X10_read_b173 t1 3 M) else (f_X10_read_b173 t1 0 M)) else none
def f_X10_read_b155 (v1 : Int) (M : Mem) : Option (Int × Mem) :=
  f_X10_read_b160 v1 1 M
def f_X10_read_b159 (v1 : Int) (M : Mem) : Option (Int × Mem) :=
  f_X10_read_b160 v1 0 M
def f_X10_read (v1 : Int) (M : Mem) : Option (Int × Mem) :=
  if inR (M 215 12) then (if (M 215 12) = 0 then (f_X10_read_b15 v1 M) else (if (M 215 12) = 1 then (f_X10_read_b15 v1 M) else (zbnd (f_X10_in v1 48 57 M) fun r2 M3 => if inR r2 then (if r2 = 0 then (if inR (M3 215 13) then (if (M3 215 13) ≤ 0 then (f_X10_read_b159 v1 M3) else (if inR v1 then (if v1 = 44 then (f_X10_read_b155 v1 M3) else (if v1 = 61 then (if inR (M3 215 12) then (if (M3 215 12) = 2 then (f_X10_read_b155 v1 M3) else (f_X10_read_b159 v1 M3)) else none) else (f_X10_read_b159 v1 M3))) else none)) else none) else (if inR (M3 215 14) then (if (M3 215 14) = 0 then (if inR (M3 215 13) then (if inR ((M3 215 12) + 1) then (if ((M3 215 12) + 1) ≤ (M3 215 13) then (f_X10_read_b92 v1 M3) else (f_X10_read_b93 v1 1 M3)) else none) else none) else (f_X10_read_b92 v1 M3)) else none)) else none))) else none
def f_X10_faultOf_b59 (t1 : Int) (M : Mem) : Option (Int × Mem) :=
  some (t1, M)
def f_X10_faultOf_b55 (M : Mem) : Option (Int × Mem) :=
  f_X10_faultOf_b59 (M 215 4) M
def f_X10_faultOf_b7 : Nat → Int → Mem → Option (Int × Mem)
  | 0, _, _ => none
  | n + 1, v1, M => if inR v1 then (if inR (M 215 4) then (if (M 215 4) ≤ v1 then (if inR (M 215 12) then (if (M 215 12) ≤ 1 then (f_X10_faultOf_b55 M) else (if inR (M 215 13) then (if (M 215 13) ≤ 0 then (f_X10_faultOf_b55 M) else (f_X10_faultOf_b59 (-1) M)) else none)) else none) else (if 0 ≤ v1 ∧ v1 < 60 then (zbnd (f_X10_read (M 217 v1.toNat) M) fun r11 M12 => if inR r11 then (if r11 = 0 then (some (v1, M12)) else (f_X10_faultOf_b7 n (v1 + 1) M12)) else none) else none)) else none) else none
def f_X10_faultOf (M : Mem) : Option (Int × Mem) :=
  zbnd (f_X10_begin 0 M) fun r1 M2 => f_X10_faultOf_b7 100000 0 M2
def f_X10_has_b14 (t1 : Int) (M : Mem) : Option (Int × Mem) :=
  if t1 = 0 ∨ t1 = 1 then (some (t1, M)) else none
def f_X10_has (v0 : Int) (v1 : Int) (M : Mem) : Option (Int × Mem) :=
  if inR (iand (ishr v0 v1) 1) then (if (iand (ishr v0 v1) 1) = 1 then (f_X10_has_b14 1 M) else (f_X10_has_b14 0 M)) else none
def f_X10_nextInn_b114 (g8 : Int → Int → Int → Int → Mem → Option (Int × Mem)) (v1 : Int) (v2 : Int) (v3 : Int) (v4 : Int) (M : Mem) : Option (Int × Mem) :=
  g8 v1 v2 v3 (v4 + 1) M
def f_X10_nextInn_b108 (g8 : Int → Int → Int → Int → Mem → Option (Int × Mem)) (v1 : Int) (v4 : Int) (v5 : Int) (M : Mem) : Option (Int × Mem) :=
  f_X10_nextInn_b114 g8 v1 v4 v5 v4 M
def f_X10_nextInn_b62 (g8 : Int → Int → Int → Int → Mem → Option (Int × Mem)) (v1 : Int) (v2 : Int) (v3 : Int) (v4 : Int) (t1 : Int) (M : Mem) : Option (Int × Mem) :=
  if inR v4 then (if inR v1 then (if v4 = v1 then (f_X10_nextInn_b114 g8 v1 v2 v3 v4 M) else (zbnd (f_X10_hasInn v4 M) fun r27 M28 => if inR r27 then (if r27 = 0 then (f_X10_nextInn_b114 g8 v1 v2 v3 v4 M28) else (zbnd (f_X10_has (ior (M28 215 9) (M28 215 10)) v4 M28) fun r31 M32 => if inR r31 then (if r31 = 0 then (if inR v2 then (if v2 = (-5) then (f_X10_nextInn_b108 g8 v1 v4 t1 M32) else (if inR t1 then (if inR v3 then (if v3 ≤ t1 then (f_X10_nextInn_b114 g8 v1 v2 v3 v4 M32) else (f_X10_nextInn_b108 g8 v1 v4 t1 M32)) else none) else none)) else none) else (f_X10_nextInn_b114 g8 v1 v2 v3 v4 M32)) else none)) else none)) else none) else none
def f_X10_nextInn_b8 : Nat → Int → Int → Int → Int → Mem → Option (Int × Mem)
  | 0, _, _, _, _, _ => none
  | n + 1, v1, v2, v3, v4, M => if inR v4 then (if inR (M 216 863) then (if (M 216 863) ≤ v4 then (some (v2, M)) else (zbnd (f_X10_latitudeOf v4 M) fun r3 M4 => zbnd (f_X10_latitudeOf v1 M4) fun r6 M7 => if inR r3 then (if inR r6 then (if r6 ≤ r3 then (zbnd (f_X10_latitudeOf v4 M7) fun r11 M12 => zbnd (f_X10_latitudeOf v1 M12) fun r14 M15 => f_X10_nextInn_b62 (f_X10_nextInn_b8 n) v1 v2 v3 v4 (r11 - r14) M15) else (zbnd (f_X10_latitudeOf v1 M7) fun r17 M18 => zbnd (f_X10_latitudeOf v4 M18) fun r20 M21 => f_X10_nextInn_b62 (f_X10_nextInn_b8 n) v1 v2 v3 v4 (r17 - r20) M21)) else none) else none)) else none) else none
def f_X10_nextInn (v1 : Int) (M : Mem) : Option (Int × Mem) :=
  f_X10_nextInn_b8 100000 v1 (-5) 0 0 M
def f_X10_stepFrom_b119 (v4 : Int) (t3 : Int) (t2 : Int) (M : Mem) : Option (Int × Mem) :=
  zlt (wr M 215 10 (ior t2 t3)) fun M36 => some (v4, M36)
def f_X10_stepFrom_b92 (v1 : Int) (M : Mem) : Option (Int × Mem) :=
  zbnd (f_X10_nextInn v1 M) fun r31 M32 => if inR r31 then (if r31 = (-5) then (f_X10_stepFrom_b119 r31 0 (M32 215 10) M32) else (f_X10_stepFrom_b119 r31 (ishl 1 r31) (M32 215 10) M32)) else none
def f_X10_stepFrom (v1 : Int) (v2 : Int) (M : Mem) : Option (Int × Mem) :=
  zbnd (f_X10_hasTrack v1 v2 M) fun r1 M2 => if inR r1 then (if r1 = 0 then (zbnd (f_X10_at 32 v1 v2 M2) fun r5 M6 => if 0 ≤ r5 ∧ r5 < 6097 then (zlt ((M6 216 r5.toNat) - 1) fun x9 => zbnd (f_X10_hasInn v1 M6) fun r10 M11 => if inR r10 then (if r10 = 0 then (f_X10_stepFrom_b92 v1 M11) else (zbnd (f_X10_has (M11 215 9) v1 M11) fun r14 M15 => if inR r14 then (if r14 = 0 then (if inR x9 then (if x9 < 0 then (f_X10_stepFrom_b92 v1 M15) else (if inR v1 then (if x9 = v1 then (f_X10_stepFrom_b92 v1 M15) else (zlt (wr M15 215 9 (ior (M15 215 9) (ishl 1 v1))) fun M20 => some (x9, M20))) else none)) else none) else (f_X10_stepFrom_b92 v1 M15)) else none)) else none) else none) else (zlt (wr M2 215 8 ((M2 215 8) + 1)) fun M25 => zbnd (f_X10_at 160 v1 v2 M25) fun r26 M27 => if 0 ≤ r26 ∧ r26 < 6097 then (some ((M27 216 r26.toNat) - 1, M27)) else none)) else none
def f_X10_findWay_b139 (g51 : Int → Int → Mem → Option (Int × Mem)) (v2 : Int) (t1 : Int) (M : Mem) : Option (Int × Mem) :=
  zbnd (f_X10_comeTo t1 M) fun r29 M30 => g51 v2 t1 M30
def f_X10_findWay_b113 (g51 : Int → Int → Mem → Option (Int × Mem)) (v2 : Int) (v4 : Int) (t3 : Int) (t2 : Int) (M : Mem) : Option (Int × Mem) :=
  zlt (wr M 215 7 (t2 + t3)) fun M25 => if inR (M25 215 11) then (if (M25 215 11) = 0 then (f_X10_findWay_b139 g51 v2 v4 M25) else (if 0 ≤ (416 + v2) ∧ (416 + v2) < 6097 then (f_X10_findWay_b139 g51 v2 (M25 216 (416 + v2).toNat) M25) else none)) else none
def f_X10_findWay_b86 (g51 : Int → Int → Mem → Option (Int × Mem)) (v2 : Int) (v4 : Int) (t2 : Int) (M : Mem) : Option (Int × Mem) :=
  if t2 = 0 ∨ t2 = 1 then (zlt (wr M 215 11 t2) fun M22 => if inR (M22 215 11) then (if (M22 215 11) = 0 then (f_X10_findWay_b113 g51 v2 v4 1 (M22 215 7) M22) else (f_X10_findWay_b113 g51 v2 v4 (M22 216 863) (M22 215 7) M22)) else none) else none
def f_X10_findWay_b51 : Nat → Int → Int → Mem → Option (Int × Mem)
  | 0, _, _, _ => none
  | n + 1, v2, v3, M => if 0 ≤ (416 + v2) ∧ (416 + v2) < 6097 then (if inR v3 then (if inR (M 216 (416 + v2).toNat) then (if v3 = (M 216 (416 + v2).toNat) then (some (0, M)) else (zbnd (f_X10_stepFrom v3 v2 M) fun r15 M16 => if inR r15 then (if r15 = (-5) then (f_X10_findWay_b86 (f_X10_findWay_b51 n) v2 r15 1 M16) else (f_X10_findWay_b86 (f_X10_findWay_b51 n) v2 r15 0 M16)) else none)) else none) else none) else none
def f_X10_findWay (v1 : Int) (v2 : Int) (M : Mem) : Option (Int × Mem) :=
  zlt (wr M 215 6 0) fun M1 => zlt (wr M1 215 7 0) fun M2 => zlt (wr M2 215 8 0) fun M3 => zlt (wr M3 215 9 0) fun M4 => zlt (wr M4 215 10 0) fun M5 => zlt (wr M5 215 11 0) fun M6 => if 0 ≤ ((756 + (16 * v1)) + v2) ∧ ((756 + (16 * v1)) + v2) < 6097 then (zlt (M6 216 ((756 + (16 * v1)) + v2).toNat) fun x8 => zbnd (f_X10_comeTo x8 M6) fun r9 M10 => f_X10_findWay_b51 100000 v2 x8 M10) else none
def f_X10_grow_b98 (g2 : Int → Mem → Option (Int × Mem)) (g16 : Int → Int → Mem → Option (Int × Mem)) (v1 : Int) (v2 : Int) (M : Mem) : Option (Int × Mem) :=
  g16 v1 (v2 + 1) M
def f_X10_grow_b104 (g2 : Int → Mem → Option (Int × Mem)) (v1 : Int) (M : Mem) : Option (Int × Mem) :=
  g2 (v1 + 1) M
def f_X10_grow_b16 (g2 : Int → Mem → Option (Int × Mem)) : Nat → Int → Int → Mem → Option (Int × Mem)
  | 0, _, _, _ => none
  | n + 1, v1, v2, M => if inR v2 then (if 16 ≤ v2 then (f_X10_grow_b104 g2 v1 M) else (zbnd (f_X10_hasInn v1 M) fun r5 M6 => if inR r5 then (if r5 = 0 then (zbnd (f_X10_hasTrack v1 v2 M6) fun r9 M10 => if inR r9 then (if r9 = 0 then (f_X10_grow_b98 g2 (f_X10_grow_b16 g2 n) v1 v2 M10) else (zbnd (f_X10_at 288 v1 v2 M10) fun r13 M14 => if 0 ≤ r13 ∧ r13 < 6097 then (if inR ((M10 216 862) - (M14 216 r13.toNat)) then (if inR (M14 216 857) then (if ((M10 216 862) - (M14 216 r13.toNat)) < (M14 216 857) then (f_X10_grow_b98 g2 (f_X10_grow_b16 g2 n) v1 v2 M14) else (zbnd (f_X10_at 160 v1 v2 M14) fun r19 M20 => if 0 ≤ r19 ∧ r19 < 6097 then (zlt (wr M20 216 r19.toNat 0) fun M23 => zlt (wr M23 216 868 ((M23 216 868) + 1)) fun M24 => f_X10_grow_b98 g2 (f_X10_grow_b16 g2 n) v1 v2 M24) else none)) else none) else none) else none)) else none) else (f_X10_grow_b104 g2 v1 M6)) else none)) else none
def f_X10_grow_b2 : Nat → Int → Mem → Option (Int × Mem)
  | 0, _, _ => none
  | n + 1, v1, M => if inR v1 then (if inR (M 216 863) then (if (M 216 863) ≤ v1 then (some (0, M)) else (f_X10_grow_b16 (f_X10_grow_b2 n) 100000 v1 0 M)) else none) else none
def f_X10_grow (M : Mem) : Option (Int × Mem) :=
  f_X10_grow_b2 100000 0 M
def f_X10_heatIn_b39 (g4 : Int → Int → Int → Mem → Option (Int × Mem)) (v1 : Int) (v3 : Int) (t2 : Int) (t1 : Int) (M : Mem) : Option (Int × Mem) :=
  zlt (t1 + t2) fun x8 => g4 v1 x8 (v3 + 1) M
def f_X10_heatIn_b4 : Nat → Int → Int → Int → Mem → Option (Int × Mem)
  | 0, _, _, _, _ => none
  | n + 1, v1, v2, v3, M => if inR v3 then (if 16 ≤ v3 then (some (v2, M)) else (if 0 ≤ (416 + v3) ∧ (416 + v3) < 6097 then (if inR (M 216 (416 + v3).toNat) then (if inR v1 then (if (M 216 (416 + v3).toNat) = v1 then (if 0 ≤ (432 + v3) ∧ (432 + v3) < 6097 then (f_X10_heatIn_b39 (f_X10_heatIn_b4 n) v1 v3 (M 216 (432 + v3).toNat) v2 M) else none) else (f_X10_heatIn_b39 (f_X10_heatIn_b4 n) v1 v3 0 v2 M)) else none) else none) else none)) else none
def f_X10_heatIn (v1 : Int) (M : Mem) : Option (Int × Mem) :=
  f_X10_heatIn_b4 100000 v1 0 0 M
def f_X10_isSetting_b36 (v1 : Int) (M : Mem) : Option (Int × Mem) :=
  zbnd (f_X10_in v1 1 30 M) fun r25 M26 => if r25 = 0 ∨ r25 = 1 then (some (r25, M26)) else none
def f_X10_isSetting_b88 (t1 : Int) (M : Mem) : Option (Int × Mem) :=
  if t1 = 0 ∨ t1 = 1 then (some (t1, M)) else none
def f_X10_isSetting_b87 (M : Mem) : Option (Int × Mem) :=
  f_X10_isSetting_b88 0 M
def f_X10_isSetting (v0 : Int) (v1 : Int) (M : Mem) : Option (Int × Mem) :=
  if inR v0 then (if v0 = 0 then (f_X10_isSetting_b36 v1 M) else if v0 = 1 then (zbnd (f_X10_in v1 1 60 M) fun r3 M4 => if r3 = 0 ∨ r3 = 1 then (some (r3, M4)) else none) else if v0 = 2 then (zbnd (f_X10_in v1 1 90 M) fun r8 M9 => if r8 = 0 ∨ r8 = 1 then (some (r8, M9)) else none) else if v0 = 3 then (zbnd (f_X10_in v1 0 16 M) fun r13 M14 => if r13 = 0 ∨ r13 = 1 then (some (r13, M14)) else none) else if v0 = 4 then (f_X10_isSetting_b36 v1 M) else (if v0 = 5 then (zbnd (f_X10_in v1 0 100 M) fun r19 M20 => if inR r19 then (if r19 = 0 then (f_X10_isSetting_b87 M20) else (f_X10_isSetting_b88 1 M20)) else none) else (f_X10_isSetting_b87 M))) else none
def f_X10_isShard (v0 : Int) (M : Mem) : Option (Int × Mem) :=
  zbnd (f_X10_in v0 0 15 M) fun r1 M2 => if r1 = 0 ∨ r1 = 1 then (some (r1, M2)) else none
def f_X10_keep (M : Mem) : Option (Int × Mem) :=
  zbnd (f_X10_copy 0 4355 M) fun r1 M2 => zlt (wr M2 215 2 1) fun M4 => some (M4 216 862, M4)
def f_X10_move_b15 (M : Mem) : Option (Int × Mem) :=
  some ((-1), M)
def f_X10_move (v1 : Int) (v2 : Int) (M : Mem) : Option (Int × Mem) :=
  zbnd (f_X10_isShard v1 M) fun r1 M2 => if inR r1 then (if r1 = 0 then (f_X10_move_b15 M2) else (zbnd (f_X10_isPasture v2 M2) fun r5 M6 => if inR r5 then (if r5 = 0 then (f_X10_move_b15 M6) else (if 0 ≤ (416 + v1) ∧ (416 + v1) < 6097 then (zlt (M6 216 (416 + v1).toNat) fun x10 => if inR x10 then (if inR v2 then (if x10 = v2 then (some ((-5), M6)) else (zbnd (f_X10_shardsIn v2 M6) fun r13 M14 => zbnd (f_X10_roomOf v2 M14) fun r16 M17 => if inR r13 then (if inR r16 then (if r13 < r16 then (zbnd (f_X10_record M17) fun r21 M22 => zbnd (f_X10_go v1 v2 M22) fun r24 M25 => some (x10, M25)) else (some ((-3), M17))) else none) else none)) else none) else none) else none)) else none)) else none
def f_X10_postAll_b60 (g2 : Int → Mem → Option (Int × Mem)) (v1 : Int) (M : Mem) : Option (Int × Mem) :=
  g2 (v1 + 1) M
def f_X10_postAll_b16 (g2 : Int → Mem → Option (Int × Mem)) : Nat → Int → Int → Mem → Option (Int × Mem)
  | 0, _, _, _ => none
  | n + 1, v1, v2, M => if inR v2 then (if 16 ≤ v2 then (f_X10_postAll_b60 g2 v1 M) else (zbnd (f_X10_hasInn v1 M) fun r5 M6 => if inR r5 then (if r5 = 0 then (f_X10_postAll_b60 g2 v1 M6) else (zbnd (f_X10_at 32 v1 v2 M6) fun r9 M10 => if 0 ≤ (416 + v2) ∧ (416 + v2) < 6097 then (if 0 ≤ r9 ∧ r9 < 6097 then (zlt (wr M10 216 r9.toNat ((M10 216 (416 + v2).toNat) + 1)) fun M14 => f_X10_postAll_b16 g2 n v1 (v2 + 1) M14) else none) else none)) else none)) else none
def f_X10_postAll_b2 : Nat → Int → Mem → Option (Int × Mem)
  | 0, _, _ => none
  | n + 1, v1, M => if inR v1 then (if inR (M 216 863) then (if (M 216 863) ≤ v1 then (some (0, M)) else (f_X10_postAll_b16 (f_X10_postAll_b2 n) 100000 v1 0 M)) else none) else none
def f_X10_postAll (M : Mem) : Option (Int × Mem) :=
  f_X10_postAll_b2 100000 0 M
def f_X10_roam_b2 : Nat → Int → Mem → Option (Int × Mem)
  | 0, _, _ => none
  | n + 1, v1, M => if inR v1 then (if inR (M 216 864) then (if (M 216 864) ≤ v1 then (some (0, M)) else (if 0 ≤ (720 + (2 * v1)) ∧ (720 + (2 * v1)) < 6097 then (if 0 ≤ ((720 + (2 * v1)) + 1) ∧ ((720 + (2 * v1)) + 1) < 6097 then (if inR ((M 216 (720 + (2 * v1)).toNat) + (M 216 ((720 + (2 * v1)) + 1).toNat)) then (if inR (M 216 863) then (if (M 216 863) ≠ 0 then (zlt (wr M 216 (720 + (2 * v1)).toNat (((M 216 (720 + (2 * v1)).toNat) + (M 216 ((720 + (2 * v1)) + 1).toNat)).tmod (M 216 863))) fun M8 => zbnd (f_X10_cutIn (M8 216 (720 + (2 * v1)).toNat) M8) fun r9 M10 => f_X10_roam_b2 n (v1 + 1) M10) else none) else none) else none) else none) else none)) else none) else none
def f_X10_roam (M : Mem) : Option (Int × Mem) :=
  f_X10_roam_b2 100000 0 M
def f_X10_passDay_b76 (M : Mem) : Option (Int × Mem) :=
  zlt (wr M 216 862 ((M 216 862) + 1)) fun M23 => some (0, M23)
def f_X10_passDay_b2 : Nat → Int → Mem → Option (Int × Mem)
  | 0, _, _ => none
  | n + 1, v1, M => if inR v1 then (if 16 ≤ v1 then (zbnd (f_X10_roam M) fun r2 M3 => zbnd (f_X10_grow M3) fun r5 M6 => zbnd (f_X10_drive M6) fun r8 M9 => if inR ((M9 216 862) + 1) then (if inR (M9 216 860) then (if (M9 216 860) ≠ 0 then (if inR (((M9 216 862) + 1).tmod (M9 216 860)) then (if (((M9 216 862) + 1).tmod (M9 216 860)) = 0 then (zbnd (f_X10_postAll M9) fun r15 M16 => f_X10_passDay_b76 M16) else (f_X10_passDay_b76 M9)) else none) else none) else none) else none) else (if 0 ≤ (432 + v1) ∧ (432 + v1) < 6097 then (if inR ((M 216 (432 + v1).toNat) * 3) then (zlt (wr M 216 (432 + v1).toNat (((M 216 (432 + v1).toNat) * 3).tdiv 4)) fun M21 => f_X10_passDay_b2 n (v1 + 1) M21) else none) else none)) else none
def f_X10_passDay (M : Mem) : Option (Int × Mem) :=
  f_X10_passDay_b2 100000 0 M
def f_X10_movesIn_b100 (t1 : Int) (M : Mem) : Option (Int × Mem) :=
  some (t1, M)
def f_X10_movesIn_b79 (v3 : Int) (t1 : Int) (M : Mem) : Option (Int × Mem) :=
  zbnd (f_X10_copy 5226 0 M) fun r24 M25 => if inR t1 then (if t1 = 0 then (f_X10_movesIn_b100 (-5) M25) else (f_X10_movesIn_b100 v3 M25)) else none
def f_X10_movesIn_b60 (v1 : Int) (v2 : Int) (v3 : Int) (M : Mem) : Option (Int × Mem) :=
  if 0 ≤ (448 + v1) ∧ (448 + v1) < 6097 then (if inR (M 216 (448 + v1).toNat) then (if inR v2 then (if (M 216 (448 + v1).toNat) = v2 then (f_X10_movesIn_b79 v3 0 M) else (f_X10_movesIn_b79 v3 1 M)) else none) else none) else none
def f_X10_movesIn_b30 : Nat → Int → Int → Int → Mem → Option (Int × Mem)
  | 0, _, _, _, _ => none
  | n + 1, v1, v2, v3, M => if inR v3 then (if 60 ≤ v3 then (f_X10_movesIn_b60 v1 v2 v3 M) else (if 0 ≤ (448 + v1) ∧ (448 + v1) < 6097 then (if inR (M 216 (448 + v1).toNat) then (if inR v2 then (if (M 216 (448 + v1).toNat) = v2 then (zbnd (f_X10_passDay M) fun r15 M16 => f_X10_movesIn_b30 n v1 v2 (v3 + 1) M16) else (f_X10_movesIn_b60 v1 v2 v3 M)) else none) else none) else none)) else none
def f_X10_movesIn (v1 : Int) (M : Mem) : Option (Int × Mem) :=
  zbnd (f_X10_isShard v1 M) fun r1 M2 => if inR r1 then (if r1 = 0 then (some ((-1), M2)) else (zbnd (f_X10_copy 0 5226 M2) fun r5 M6 => if 0 ≤ (448 + v1) ∧ (448 + v1) < 6097 then (zlt (M6 216 (448 + v1).toNat) fun x9 => f_X10_movesIn_b30 100000 v1 x9 0 M6) else none)) else none
def f_X10_pass_b47 : Nat → Int → Int → Int → Mem → Option (Int × Mem)
  | 0, _, _, _, _ => none
  | n + 1, v1, v2, v3, M => if inR v3 then (if inR v1 then (if v1 ≤ v3 then (some ((M 216 866) - v2, M)) else (zbnd (f_X10_passDay M) fun r14 M15 => f_X10_pass_b47 n v1 v2 (v3 + 1) M15)) else none) else none
def f_X10_pass (v1 : Int) (M : Mem) : Option (Int × Mem) :=
  zbnd (f_X10_in v1 1 60 M) fun r1 M2 => if inR r1 then (if r1 = 0 then (some ((-2), M2)) else (if inR ((M2 216 862) + v1) then (if ((M2 216 862) + v1) ≤ 9999 then (zbnd (f_X10_record M2) fun r6 M7 => zlt (M7 216 866) fun x9 => f_X10_pass_b47 100000 v1 x9 0 M7) else (some ((-4), M2))) else none)) else none
def f_X10_wolvesIn_b38 (g4 : Int → Int → Int → Mem → Option (Int × Mem)) (v1 : Int) (v3 : Int) (t2 : Int) (t1 : Int) (M : Mem) : Option (Int × Mem) :=
  zlt (t1 + t2) fun x8 => g4 v1 x8 (v3 + 1) M
def f_X10_wolvesIn_b4 : Nat → Int → Int → Int → Mem → Option (Int × Mem)
  | 0, _, _, _, _ => none
  | n + 1, v1, v2, v3, M => if inR v3 then (if inR (M 216 864) then (if (M 216 864) ≤ v3 then (some (v2, M)) else (if 0 ≤ (720 + (2 * v3)) ∧ (720 + (2 * v3)) < 6097 then (if inR (M 216 (720 + (2 * v3)).toNat) then (if inR v1 then (if (M 216 (720 + (2 * v3)).toNat) = v1 then (f_X10_wolvesIn_b38 (f_X10_wolvesIn_b4 n) v1 v3 1 v2 M) else (f_X10_wolvesIn_b38 (f_X10_wolvesIn_b4 n) v1 v3 0 v2 M)) else none) else none) else none)) else none) else none
def f_X10_wolvesIn (v1 : Int) (M : Mem) : Option (Int × Mem) :=
  f_X10_wolvesIn_b4 100000 v1 0 0 M
def f_X10_pasture_b60 (v1 : Int) (v2 : Int) (M : Mem) : Option (Int × Mem) :=
  if 0 ≤ ((0 + (4 * v1)) + v2) ∧ ((0 + (4 * v1)) + v2) < 6097 then (some (M 216 ((0 + (4 * v1)) + v2).toNat, M)) else none
def f_X10_pasture (v1 : Int) (v2 : Int) (M : Mem) : Option (Int × Mem) :=
  zbnd (f_X10_isPasture v1 M) fun r1 M2 => if inR r1 then (if r1 = 0 then (some ((-1), M2)) else (if inR v2 then (if v2 = 0 then (f_X10_pasture_b60 v1 v2 M2) else if v2 = 1 then (f_X10_pasture_b60 v1 v2 M2) else if v2 = 2 then (f_X10_pasture_b60 v1 v2 M2) else if v2 = 3 then (zbnd (f_X10_shardsIn v1 M2) fun r9 M10 => some (r9, M10)) else if v2 = 4 then (zbnd (f_X10_tracksIn v1 M2) fun r13 M14 => some (r13, M14)) else if v2 = 5 then (zbnd (f_X10_distanceOf v1 M2) fun r17 M18 => some (r17, M18)) else if v2 = 6 then (zbnd (f_X10_heatIn v1 M2) fun r21 M22 => some (r21, M22)) else if v2 = 7 then (zbnd (f_X10_wolvesIn v1 M2) fun r25 M26 => some (r25, M26)) else if v2 = 8 then (if 0 ≤ ((0 + (4 * v1)) + 3) ∧ ((0 + (4 * v1)) + 3) < 6097 then (some (M2 216 ((0 + (4 * v1)) + 3).toNat, M2)) else none) else (some ((-2), M2))) else none)) else none
def f_X10_post (M : Mem) : Option (Int × Mem) :=
  zbnd (f_X10_inns M) fun r1 M2 => if inR r1 then (if r1 = 0 then (some ((-5), M2)) else (zbnd (f_X10_record M2) fun r5 M6 => zbnd (f_X10_postAll M6) fun r8 M9 => some (r1, M9))) else none
def f_X10_put (v1 : Int) (v2 : Int) (M : Mem) : Option (Int × Mem) :=
  if 0 ≤ v1 ∧ v1 < 6097 then (zlt (M 216 v1.toNat) fun x2 => if inR x2 then (if inR v2 then (if x2 = v2 then (some ((-5), M)) else (zbnd (f_X10_record M) fun r5 M6 => zlt (wr M6 216 v1.toNat v2) fun M8 => some (x2, M8))) else none) else none) else none
def f_X10_reach_b15 (M : Mem) : Option (Int × Mem) :=
  some ((-1), M)
def f_X10_reach_b103 (t1 : Int) (M : Mem) : Option (Int × Mem) :=
  some (t1, M)
def f_X10_reach (v1 : Int) (v2 : Int) (v3 : Int) (M : Mem) : Option (Int × Mem) :=
  zbnd (f_X10_isReader v1 M) fun r1 M2 => if inR r1 then (if r1 = 0 then (f_X10_reach_b15 M2) else (zbnd (f_X10_isKey v2 M2) fun r5 M6 => if inR r5 then (if r5 = 0 then (f_X10_reach_b15 M6) else (zbnd (f_X10_in v3 0 4 M6) fun r9 M10 => if inR r9 then (if r9 = 0 then (some ((-2), M10)) else (if inR v2 then (zbnd (f_X10_findWay v1 (v2.tdiv 16) M10) fun r14 M15 => if inR v3 then (if v3 = 0 then (f_X10_reach_b103 (M15 215 7) M15) else (if v3 = 1 then (f_X10_reach_b103 (M15 215 8) M15) else (if v3 = 2 then (zbnd (f_X10_bits (M15 215 9) M15) fun r24 M25 => f_X10_reach_b103 r24 M25) else (if v3 = 3 then (zbnd (f_X10_bits (M15 215 10) M15) fun r20 M21 => f_X10_reach_b103 r20 M21) else (if inR (M15 215 11) then (if (M15 215 11) = 0 then (f_X10_reach_b103 0 M15) else (f_X10_reach_b103 1 M15)) else none))))) else none) else none)) else none)) else none)) else none
def f_X10_reachFor_b130 (g86 : Int → Int → Mem → Option (Int × Mem)) (v1 : Int) (v5 : Int) (t4 : Int) (t3 : Int) (t2 : Int) (M : Mem) : Option (Int × Mem) :=
  if 0 ≤ t2 ∧ t2 < 6097 then (zlt (wr M 216 t2.toNat (t3 + t4)) fun M39 => g86 v1 (v5 + 1) M39) else none
def f_X10_reachFor_b274 (t4 : Int) (t3 : Int) (t2 : Int) (M : Mem) : Option (Int × Mem) :=
  if 0 ≤ t2 ∧ t2 < 6097 then (zlt (wr M 216 t2.toNat (t3 + t4)) fun M46 => some (M46 215 7, M46)) else none
def f_X10_reachFor_b240 (t3 : Int) (t2 : Int) (M : Mem) : Option (Int × Mem) :=
  if 0 ≤ t2 ∧ t2 < 6097 then (zlt (wr M 216 t2.toNat t3) fun M41 => zlt (wr M41 216 869 ((M41 216 869) + 1)) fun M42 => if inR (M42 215 11) then (if (M42 215 11) = 0 then (f_X10_reachFor_b274 0 (M42 216 870) 870 M42) else (f_X10_reachFor_b274 1 (M42 216 870) 870 M42)) else none) else none
def f_X10_reachFor_b198 (v5 : Int) (t4 : Int) (t3 : Int) (t2 : Int) (M : Mem) : Option (Int × Mem) :=
  if 0 ≤ t2 ∧ t2 < 6097 then (zlt (wr M 216 t2.toNat (t3 + t4)) fun M33 => if 0 ≤ (v5 + 4) ∧ (v5 + 4) < 6097 then (if inR (M33 215 7) then (if inR (M33 216 (v5 + 4).toNat) then (if (M33 215 7) ≤ (M33 216 (v5 + 4).toNat) then (f_X10_reachFor_b240 (M33 216 (v5 + 4).toNat) (v5 + 4) M33) else (f_X10_reachFor_b240 (M33 215 7) (v5 + 4) M33)) else none) else none) else none) else none
def f_X10_reachFor_b86 : Nat → Int → Int → Mem → Option (Int × Mem)
  | 0, _, _, _ => none
  | n + 1, v1, v5, M => if inR v5 then (if inR (M 216 863) then (if (M 216 863) ≤ v5 then (zlt (726 + (5 * v1)) fun x17 => if 0 ≤ (x17 + 1) ∧ (x17 + 1) < 6097 then (zlt (wr M 216 (x17 + 1).toNat ((M 216 (x17 + 1).toNat) + 1)) fun M19 => if 0 ≤ (x17 + 2) ∧ (x17 + 2) < 6097 then (zlt (wr M19 216 (x17 + 2).toNat ((M19 216 (x17 + 2).toNat) + (M19 215 7))) fun M21 => if 0 ≤ (x17 + 3) ∧ (x17 + 3) < 6097 then (if inR (M21 215 11) then (if (M21 215 11) = 0 then (f_X10_reachFor_b198 x17 0 (M21 216 (x17 + 3).toNat) (x17 + 3) M21) else (f_X10_reachFor_b198 x17 1 (M21 216 (x17 + 3).toNat) (x17 + 3) M21)) else none) else none) else none) else none) else (if 0 ≤ ((0 + (4 * v5)) + 3) ∧ ((0 + (4 * v5)) + 3) < 6097 then (zbnd (f_X10_has (M 215 10) v5 M) fun r26 M27 => if inR r26 then (if r26 = 0 then (f_X10_reachFor_b130 (f_X10_reachFor_b86 n) v1 v5 0 (M 216 ((0 + (4 * v5)) + 3).toNat) ((0 + (4 * v5)) + 3) M27) else (f_X10_reachFor_b130 (f_X10_reachFor_b86 n) v1 v5 1 (M 216 ((0 + (4 * v5)) + 3).toNat) ((0 + (4 * v5)) + 3) M27)) else none) else none)) else none) else none
def f_X10_reachFor_b57 (v1 : Int) (v3 : Int) (t3 : Int) (t2 : Int) (M : Mem) : Option (Int × Mem) :=
  if 0 ≤ t2 ∧ t2 < 6097 then (zlt (wr M 216 t2.toNat t3) fun M11 => if 0 ≤ (416 + v3) ∧ (416 + v3) < 6097 then (if 0 ≤ ((756 + (16 * v1)) + v3) ∧ ((756 + (16 * v1)) + v3) < 6097 then (zlt (wr M11 216 ((756 + (16 * v1)) + v3).toNat (M11 216 (416 + v3).toNat)) fun M14 => f_X10_reachFor_b86 100000 v1 0 M14) else none) else none) else none
def f_X10_reachFor (v1 : Int) (v2 : Int) (M : Mem) : Option (Int × Mem) :=
  if inR v2 then (zlt (v2.tdiv 16) fun x2 => zbnd (f_X10_findWay v1 x2 M) fun r3 M4 => if 0 ≤ (432 + x2) ∧ (432 + x2) < 6097 then (zlt ((M4 216 (432 + x2).toNat) + (M4 216 861)) fun x7 => if inR x7 then (if x7 ≤ 9999 then (f_X10_reachFor_b57 v1 x2 x7 (432 + x2) M4) else (f_X10_reachFor_b57 v1 x2 9999 (432 + x2) M4)) else none) else none) else none
def f_X10_readRequests_b107 (g31 : Int → Int → Mem → Option (Int × Mem)) (g51 : Int → Int → Int → Int → Mem → Option (Int × Mem)) (v2 : Int) (v3 : Int) (v4 : Int) (v5 : Int) (t3 : Int) (t2 : Int) (M : Mem) : Option (Int × Mem) :=
  if 0 ≤ t2 ∧ t2 < 6097 then (zlt (wr M 216 t2.toNat t3) fun M42 => g51 v2 v3 v4 (v5 + 1) M42) else none
def f_X10_readRequests_b51 (g31 : Int → Int → Mem → Option (Int × Mem)) : Nat → Int → Int → Int → Int → Mem → Option (Int × Mem)
  | 0, _, _, _, _, _ => none
  | n + 1, v2, v3, v4, v5, M => zbnd (f_X10_nextBehind v3 M) fun r20 M21 => if inR v5 then (if inR (r20 - 1) then (if (r20 - 1) ≤ v5 then (if 0 ≤ v3 ∧ v3 < 60 then (zbnd (f_X10_reachFor ((M21 217 v3.toNat) - 48) v4 M21) fun r26 M27 => zlt (v2 + r26) fun x29 => zbnd (f_X10_nextBehind v3 M27) fun r30 M31 => g31 x29 r30 M31) else none) else (if 0 ≤ v5 ∧ v5 < 60 then (if inR (M21 217 v5.toNat) then (if (M21 217 v5.toNat) = 61 then (zbnd (f_X10_numberAt (v5 + 1) M21) fun r36 M37 => f_X10_readRequests_b107 g31 (f_X10_readRequests_b51 g31 n) v2 v3 v4 v5 r36 (464 + v4) M37) else (if 0 ≤ (464 + v4) ∧ (464 + v4) < 6097 then (f_X10_readRequests_b107 g31 (f_X10_readRequests_b51 g31 n) v2 v3 v4 v5 (M21 216 (464 + v4).toNat) (464 + v4) M21) else none)) else none) else none)) else none) else none
def f_X10_readRequests_b31 : Nat → Int → Int → Mem → Option (Int × Mem)
  | 0, _, _, _ => none
  | n + 1, v2, v3, M => if inR v3 then (if inR (M 215 4) then (if (M 215 4) ≤ v3 then (some (v2, M)) else (zbnd (f_X10_numberAt (v3 + 2) M) fun r16 M17 => f_X10_readRequests_b51 (f_X10_readRequests_b31 n) 100000 v2 v3 r16 v3 M17)) else none) else none
def f_X10_readRequests (M : Mem) : Option (Int × Mem) :=
  zbnd (f_X10_faultOf M) fun r1 M2 => if inR r1 then (if r1 < 0 then (zbnd (f_X10_areKnown M2) fun r5 M6 => if inR r5 then (if r5 = 0 then (some ((-1), M6)) else (zbnd (f_X10_record M6) fun r9 M10 => f_X10_readRequests_b31 100000 0 0 M10)) else none) else (some ((-100) - r1, M2))) else none
def f_X10_reader_b38 (t1 : Int) (M : Mem) : Option (Int × Mem) :=
  some (t1, M)
def f_X10_reader (v1 : Int) (v2 : Int) (M : Mem) : Option (Int × Mem) :=
  zbnd (f_X10_isReader v1 M) fun r1 M2 => if inR r1 then (if r1 = 0 then (some ((-1), M2)) else (zbnd (f_X10_in v2 0 4 M2) fun r5 M6 => if inR r5 then (if r5 = 0 then (f_X10_reader_b38 (-2) M6) else (if 0 ≤ ((726 + (5 * v1)) + v2) ∧ ((726 + (5 * v1)) + v2) < 6097 then (f_X10_reader_b38 (M6 216 ((726 + (5 * v1)) + v2).toNat) M6) else none)) else none)) else none
def f_X10_remembered_b34 (t1 : Int) (M : Mem) : Option (Int × Mem) :=
  some (t1, M)
def f_X10_remembered_b33 (M : Mem) : Option (Int × Mem) :=
  f_X10_remembered_b34 (-1) M
def f_X10_remembered (v1 : Int) (v2 : Int) (M : Mem) : Option (Int × Mem) :=
  zbnd (f_X10_isReader v1 M) fun r1 M2 => if inR r1 then (if r1 = 0 then (f_X10_remembered_b33 M2) else (zbnd (f_X10_isShard v2 M2) fun r5 M6 => if inR r5 then (if r5 = 0 then (f_X10_remembered_b33 M6) else (if 0 ≤ ((756 + (16 * v1)) + v2) ∧ ((756 + (16 * v1)) + v2) < 6097 then (f_X10_remembered_b34 (M6 216 ((756 + (16 * v1)) + v2).toNat) M6) else none)) else none)) else none
def f_X10_request_b15 (M : Mem) : Option (Int × Mem) :=
  some ((-1), M)
def f_X10_request (v1 : Int) (v2 : Int) (M : Mem) : Option (Int × Mem) :=
  zbnd (f_X10_isReader v1 M) fun r1 M2 => if inR r1 then (if r1 = 0 then (f_X10_request_b15 M2) else (zbnd (f_X10_isKey v2 M2) fun r5 M6 => if inR r5 then (if r5 = 0 then (f_X10_request_b15 M6) else (zbnd (f_X10_record M6) fun r9 M10 => zbnd (f_X10_reachFor v1 v2 M10) fun r12 M13 => some (r12, M13))) else none)) else none
def f_X10_restore (M : Mem) : Option (Int × Mem) :=
  if inR (M 215 2) then (if (M 215 2) = 0 then (some ((-5), M)) else (zbnd (f_X10_record M) fun r2 M3 => zbnd (f_X10_copy 4355 0 M3) fun r5 M6 => some (M6 216 862, M6))) else none
def f_X10_set_b23 (t1 : Int) (M : Mem) : Option (Int × Mem) :=
  some (t1, M)
def f_X10_set (v1 : Int) (v2 : Int) (M : Mem) : Option (Int × Mem) :=
  zbnd (f_X10_isSetting v1 v2 M) fun r1 M2 => if inR r1 then (if r1 = 0 then (f_X10_set_b23 (-2) M2) else (zbnd (f_X10_put (856 + v1) v2 M2) fun r5 M6 => f_X10_set_b23 r5 M6)) else none
def f_X10_setInn_b49 : Nat → Int → Int → Mem → Option (Int × Mem)
  | 0, _, _, _ => none
  | n + 1, v1, v3, M => if inR v3 then (if 16 ≤ v3 then (zbnd (f_X10_inns M) fun r19 M20 => some (r19, M20)) else (if 0 ≤ ((32 + (16 * v1)) + v3) ∧ ((32 + (16 * v1)) + v3) < 6097 then (zlt (wr M 216 ((32 + (16 * v1)) + v3).toNat 0) fun M23 => f_X10_setInn_b49 n v1 (v3 + 1) M23) else none)) else none
def f_X10_setInn_b46 (v1 : Int) (t3 : Int) (t2 : Int) (M : Mem) : Option (Int × Mem) :=
  if 0 ≤ t2 ∧ t2 < 6097 then (zlt (wr M 216 t2.toNat t3) fun M17 => f_X10_setInn_b49 100000 v1 0 M17) else none
def f_X10_setInn (v1 : Int) (v2 : Int) (M : Mem) : Option (Int × Mem) :=
  zbnd (f_X10_isPasture v1 M) fun r1 M2 => if inR r1 then (if r1 = 0 then (some ((-1), M2)) else (zbnd (f_X10_hasInn v1 M2) fun r5 M6 => if inR r5 then (if inR v2 then (if r5 = v2 then (some ((-5), M6)) else (zbnd (f_X10_record M6) fun r10 M11 => if v2 = 0 then (f_X10_setInn_b46 v1 0 ((0 + (4 * v1)) + 2) M11) else (f_X10_setInn_b46 v1 1 ((0 + (4 * v1)) + 2) M11))) else none) else none)) else none
def f_X10_setRoom (v1 : Int) (v2 : Int) (M : Mem) : Option (Int × Mem) :=
  zbnd (f_X10_isPasture v1 M) fun r1 M2 => if inR r1 then (if r1 = 0 then (some ((-1), M2)) else (zbnd (f_X10_in v2 1 16 M2) fun r5 M6 => if inR r5 then (if r5 = 0 then (some ((-2), M6)) else (zbnd (f_X10_shardsIn v1 M6) fun r9 M10 => if inR r9 then (if inR v2 then (if r9 ≤ v2 then (zbnd (f_X10_roomOf v1 M10) fun r14 M15 => if inR r14 then (if r14 = v2 then (some ((-5), M15)) else (zbnd (f_X10_record M15) fun r18 M19 => if 0 ≤ ((0 + (4 * v1)) + 1) ∧ ((0 + (4 * v1)) + 1) < 6097 then (zlt (wr M19 216 ((0 + (4 * v1)) + 1).toNat v2) fun M22 => some (r14, M22)) else none)) else none) else (some ((-4), M10))) else none) else none)) else none)) else none
def f_X10_setSeason_b34 (t1 : Int) (M : Mem) : Option (Int × Mem) :=
  some (t1, M)
def f_X10_setSeason_b32 (M : Mem) : Option (Int × Mem) :=
  f_X10_setSeason_b34 (-2) M
def f_X10_setSeason (v1 : Int) (v2 : Int) (M : Mem) : Option (Int × Mem) :=
  zbnd (f_X10_in v1 0 3 M) fun r1 M2 => if inR r1 then (if r1 = 0 then (f_X10_setSeason_b32 M2) else (zbnd (f_X10_in v2 0 90 M2) fun r5 M6 => if inR r5 then (if r5 = 0 then (f_X10_setSeason_b32 M6) else (zbnd (f_X10_put (852 + v1) v2 M6) fun r9 M10 => f_X10_setSeason_b34 r9 M10)) else none)) else none
def f_X10_sumOf_b4 : Nat → Int → Int → Int → Mem → Option (Int × Mem)
  | 0, _, _, _, _ => none
  | n + 1, v1, v2, v3, M => if inR v3 then (if 16 ≤ v3 then (some (v2, M)) else (if 0 ≤ ((464 + (16 * v1)) + v3) ∧ ((464 + (16 * v1)) + v3) < 6097 then (zlt (v2 + (M 216 ((464 + (16 * v1)) + v3).toNat)) fun x3 => f_X10_sumOf_b4 n v1 x3 (v3 + 1) M) else none)) else none
def f_X10_sumOf (v1 : Int) (M : Mem) : Option (Int × Mem) :=
  f_X10_sumOf_b4 100000 v1 0 0 M
def f_X10_tracksOf_b31 (g4 : Int → Int → Int → Mem → Option (Int × Mem)) (v1 : Int) (v3 : Int) (t2 : Int) (t1 : Int) (M : Mem) : Option (Int × Mem) :=
  zlt (t1 + t2) fun x9 => g4 v1 x9 (v3 + 1) M
def f_X10_tracksOf_b4 : Nat → Int → Int → Int → Mem → Option (Int × Mem)
  | 0, _, _, _, _ => none
  | n + 1, v1, v2, v3, M => if inR v3 then (if inR (M 216 863) then (if (M 216 863) ≤ v3 then (some (v2, M)) else (zbnd (f_X10_hasTrack v3 v1 M) fun r3 M4 => if inR r3 then (if r3 = 0 then (f_X10_tracksOf_b31 (f_X10_tracksOf_b4 n) v1 v3 0 v2 M4) else (f_X10_tracksOf_b31 (f_X10_tracksOf_b4 n) v1 v3 1 v2 M4)) else none)) else none) else none
def f_X10_tracksOf (v1 : Int) (M : Mem) : Option (Int × Mem) :=
  f_X10_tracksOf_b4 100000 v1 0 0 M
def f_X10_shard (v1 : Int) (v2 : Int) (M : Mem) : Option (Int × Mem) :=
  zbnd (f_X10_isShard v1 M) fun r1 M2 => if inR r1 then (if r1 = 0 then (some ((-1), M2)) else (if inR v2 then (if v2 = 0 then (if 0 ≤ (416 + v1) ∧ (416 + v1) < 6097 then (some (M2 216 (416 + v1).toNat, M2)) else none) else if v2 = 1 then (if 0 ≤ (432 + v1) ∧ (432 + v1) < 6097 then (some (M2 216 (432 + v1).toNat, M2)) else none) else if v2 = 2 then (if 0 ≤ (448 + v1) ∧ (448 + v1) < 6097 then (some (M2 216 (448 + v1).toNat, M2)) else none) else if v2 = 3 then (zbnd (f_X10_tracksOf v1 M2) fun r12 M13 => some (r12, M13)) else if v2 = 4 then (zbnd (f_X10_orderOf v1 M2) fun r16 M17 => some (r16, M17)) else if v2 = 5 then (zbnd (f_X10_lookedAt v1 M2) fun r20 M21 => some (r20, M21)) else if v2 = 6 then (zbnd (f_X10_sumOf v1 M2) fun r24 M25 => some (r24, M25)) else (some ((-2), M2))) else none)) else none
def f_X10_track_b15 (M : Mem) : Option (Int × Mem) :=
  some ((-1), M)
def f_X10_track_b99 (t1 : Int) (M : Mem) : Option (Int × Mem) :=
  some (t1, M)
def f_X10_track_b62 (v1 : Int) (v2 : Int) (v3 : Int) (t1 : Int) (M : Mem) : Option (Int × Mem) :=
  if inR t1 then (if t1 = 0 then (f_X10_track_b99 (-5) M) else (if inR v3 then (if v3 = 1 then (zbnd (f_X10_at 288 v1 v2 M) fun r28 M29 => if 0 ≤ r28 ∧ r28 < 6097 then (f_X10_track_b99 (M29 216 r28.toNat) M29) else none) else (f_X10_track_b99 (t1 - 1) M)) else none)) else none
def f_X10_track (v1 : Int) (v2 : Int) (v3 : Int) (M : Mem) : Option (Int × Mem) :=
  zbnd (f_X10_isPasture v1 M) fun r1 M2 => if inR r1 then (if r1 = 0 then (f_X10_track_b15 M2) else (zbnd (f_X10_isShard v2 M2) fun r5 M6 => if inR r5 then (if r5 = 0 then (f_X10_track_b15 M6) else (zbnd (f_X10_in v3 0 2 M6) fun r9 M10 => if inR r9 then (if r9 = 0 then (some ((-2), M10)) else (if inR v3 then (if v3 = 2 then (zbnd (f_X10_at 32 v1 v2 M10) fun r18 M19 => if 0 ≤ r18 ∧ r18 < 6097 then (f_X10_track_b62 v1 v2 v3 (M19 216 r18.toNat) M19) else none) else (zbnd (f_X10_at 160 v1 v2 M10) fun r14 M15 => if 0 ≤ r14 ∧ r14 < 6097 then (f_X10_track_b62 v1 v2 v3 (M15 216 r14.toNat) M15) else none)) else none)) else none)) else none)) else none
def f_X10_type (v1 : Int) (M : Mem) : Option (Int × Mem) :=
  if inR (M 215 4) then (if (M 215 4) = 60 then (some ((-3), M)) else (if 0 ≤ (M 215 4) ∧ (M 215 4) < 60 then (zlt (wr M 217 (M 215 4).toNat v1) fun M3 => zlt (wr M3 215 4 ((M3 215 4) + 1)) fun M4 => some (M4 215 4, M4)) else none)) else none
def f_X10_undo (M : Mem) : Option (Int × Mem) :=
  if inR (M 215 1) then (if (M 215 1) = 0 then (some ((-5), M)) else (zlt (wr M 215 1 ((M 215 1) - 1)) fun M2 => zbnd (f_X10_copy (871 + (871 * (M2 215 1))) 0 M2) fun r3 M4 => some (M4 215 1, M4))) else none
def f_X10_value_b21 (t1 : Int) (M : Mem) : Option (Int × Mem) :=
  some (t1, M)
def f_X10_value (v1 : Int) (M : Mem) : Option (Int × Mem) :=
  zbnd (f_X10_isKey v1 M) fun r1 M2 => if inR r1 then (if r1 = 0 then (f_X10_value_b21 (-1) M2) else (if 0 ≤ (464 + v1) ∧ (464 + v1) < 6097 then (f_X10_value_b21 (M2 216 (464 + v1).toNat) M2) else none)) else none
def f_X10_way_b15 (M : Mem) : Option (Int × Mem) :=
  some ((-1), M)
def f_X10_way_b52 (t1 : Int) (M : Mem) : Option (Int × Mem) :=
  some (t1, M)
def f_X10_way (v1 : Int) (v2 : Int) (v3 : Int) (M : Mem) : Option (Int × Mem) :=
  zbnd (f_X10_isReader v1 M) fun r1 M2 => if inR r1 then (if r1 = 0 then (f_X10_way_b15 M2) else (zbnd (f_X10_isKey v2 M2) fun r5 M6 => if inR r5 then (if r5 = 0 then (f_X10_way_b15 M6) else (if inR v3 then (if 0 ≤ v3 then (if inR v2 then (zbnd (f_X10_findWay v1 (v2.tdiv 16) M6) fun r11 M12 => if inR (M12 215 6) then (if (M12 215 6) ≤ v3 then (f_X10_way_b52 (-5) M12) else (if 0 ≤ v3 ∧ v3 < 160 then (f_X10_way_b52 (M12 218 v3.toNat) M12) else none)) else none) else none) else (some ((-2), M6))) else none)) else none)) else none
def f_X10_write_b15 (M : Mem) : Option (Int × Mem) :=
  some ((-1), M)
def f_X10_write (v1 : Int) (v2 : Int) (v3 : Int) (M : Mem) : Option (Int × Mem) :=
  zbnd (f_X10_isReader v1 M) fun r1 M2 => if inR r1 then (if r1 = 0 then (f_X10_write_b15 M2) else (zbnd (f_X10_isKey v2 M2) fun r5 M6 => if inR r5 then (if r5 = 0 then (f_X10_write_b15 M6) else (zbnd (f_X10_in v3 0 9999 M6) fun r9 M10 => if inR r9 then (if r9 = 0 then (some ((-2), M10)) else (zbnd (f_X10_record M10) fun r13 M14 => if 0 ≤ (464 + v2) ∧ (464 + v2) < 6097 then (zlt (wr M14 216 (464 + v2).toNat v3) fun M17 => zbnd (f_X10_reachFor v1 v2 M17) fun r18 M19 => some (r18, M19)) else none)) else none)) else none)) else none
end
section
theorem lc_0 : 0 < zN ∧ lay 0 = (0, 9) := by decide +kernel
theorem wm_X9_43 : Cond.methodLink "ShardTrails" 43 yX9_isWithin ∈ wsU := wsU_c2 118 rfl rfl
theorem zy_X9_isWithin : zyS yX9_isWithin cX9_isWithin 3 3 (some .boolean) := ⟨wsU_c2 120 rfl rfl, wsU_c2 119 rfl rfl, wsU_c1 1 rfl rfl, by decide +kernel⟩
theorem wf_X9_12 : Cond.fieldLink "ShardTrails" 12 "ShardTrails" "state" "LShardTrails$State;" ∈ wsU := wsU_c2 92 rfl rfl
theorem lc_1 : 1 < zN ∧ lay 1 = (0, 7) := by decide +kernel
theorem wf_X9_47 : Cond.fieldLink "ShardTrails" 47 "ShardTrails$State" "land" "LShardTrails$Land;" ∈ wsU := wsU_c1 197 rfl rfl
theorem lc_4 : 4 < zN ∧ lay 4 = (0, 2) := by decide +kernel
theorem wf_X9_51 : Cond.fieldLink "ShardTrails" 51 "ShardTrails$Land" "number" "I" ∈ wsU := wsU_c1 50 rfl rfl
theorem wf_X9_25 : Cond.fieldLink "ShardTrails" 25 "ShardTrails" "history" "LShardTrails$History;" ∈ wsU := wsU_c2 95 rfl rfl
theorem lc_88 : 88 < zN ∧ lay 88 = (0, 1) := by decide +kernel
theorem wm_X9_57 : Cond.methodLink "ShardTrails" 57 yX1_store ∈ wsU := wsU_c2 121 rfl rfl
theorem zy_X1_store : zyV yX1_store cX1_store 2 1 none := ⟨wsU_c2 124 rfl rfl, wsU_c2 122 rfl rfl, wsU_c2 123 rfl rfl, wsU_c1 9 rfl rfl, by decide +kernel⟩
theorem wm_X9_61 : Cond.methodLink "ShardTrails" 61 yX2_found ∈ wsU := wsU_c2 163 rfl rfl
theorem zy_X2_found : zyV yX2_found cX2_found 5 3 (some .int) := ⟨wsU_c2 166 rfl rfl, wsU_c2 164 rfl rfl, wsU_c2 165 rfl rfl, wsU_c1 3 rfl rfl, by decide +kernel⟩
theorem wf_X1_11 : Cond.fieldLink "ShardTrails$History" 11 "ShardTrails$History" "states" "[LShardTrails$State;" ∈ wsU := wsU_c2 6 rfl rfl
theorem lc_89 : 89 < zN ∧ lay 89 = (4, 4) := by decide +kernel
theorem wf_X1_18 : Cond.fieldLink "ShardTrails$History" 18 "ShardTrails$History" "oldest" "I" ∈ wsU := wsU_c2 5 rfl rfl
theorem wf_X1_22 : Cond.fieldLink "ShardTrails$History" 22 "ShardTrails$History" "number" "I" ∈ wsU := wsU_c2 3 rfl rfl
theorem pt_st0 : ∀ j, j < 4 → 90 + 29 * j < zN ∧ lay (90 + 29 * j) = (0, 7) := by decide +kernel
theorem pt_st {i : Int} (h : 0 ≤ i ∧ i < ((4 : Nat) : Int)) : 90 + 29 * i.toNat < zN ∧ lay (90 + 29 * i.toNat) = (0, 7) := pt_st0 _ (by omega)
theorem wm_X1_25 : Cond.methodLink "ShardTrails$History" 25 yX7_copyFrom ∈ wsU := wsU_c2 125 rfl rfl
theorem zy_X7_copyFrom : zyV yX7_copyFrom cX7_copyFrom 2 1 none := ⟨wsU_c2 128 rfl rfl, wsU_c2 126 rfl rfl, wsU_c2 127 rfl rfl, wsU_c1 2 rfl rfl, by decide +kernel⟩
theorem wf_X7_67 : Cond.fieldLink "ShardTrails$State" 67 "ShardTrails$State" "day" "I" ∈ wsU := wsU_c1 186 rfl rfl
theorem wf_X7_71 : Cond.fieldLink "ShardTrails$State" 71 "ShardTrails$State" "cutTracks" "I" ∈ wsU := wsU_c1 188 rfl rfl
theorem wf_X7_74 : Cond.fieldLink "ShardTrails$State" 74 "ShardTrails$State" "overgrownTracks" "I" ∈ wsU := wsU_c1 190 rfl rfl
theorem wf_X7_18 : Cond.fieldLink "ShardTrails$State" 18 "ShardTrails$State" "numbers" "[I" ∈ wsU := wsU_c1 192 rfl rfl
theorem pt_7_3 : ∀ k, k < zN → lay k = (0, 7) → k + 1 < zN ∧ lay (k + 1) = (1, 6) := by decide +kernel
theorem wn_X7_77 : ("ShardTrails$State", 77, yX9_copyRow, "ShardTrails") ∈ zNest := List.mem_of_getElem? (i := 7) (by decide +kernel)
theorem zy_X9_copyRow : zyS yX9_copyRow cX9_copyRow 2 2 none := ⟨wsU_c2 131 rfl rfl, wsU_c2 130 rfl rfl, wsU_c1 1 rfl rfl, by decide +kernel⟩
theorem wf_X7_26 : Cond.fieldLink "ShardTrails$State" 26 "ShardTrails$State" "latitudes" "[I" ∈ wsU := wsU_c1 194 rfl rfl
theorem pt_7_4 : ∀ k, k < zN → lay k = (0, 7) → k + 2 < zN ∧ lay (k + 2) = (1, 4) := by decide +kernel
theorem wf_X7_32 : Cond.fieldLink "ShardTrails$State" 32 "ShardTrails$State" "land" "LShardTrails$Land;" ∈ wsU := wsU_c1 196 rfl rfl
theorem pt_7_5 : ∀ k, k < zN → lay k = (0, 7) → k + 3 < zN ∧ lay (k + 3) = (0, 2) := by decide +kernel
theorem wm_X7_81 : Cond.methodLink "ShardTrails$State" 81 yX2_copyFrom ∈ wsU := wsU_c2 138 rfl rfl
theorem zy_X2_copyFrom : zyV yX2_copyFrom cX2_copyFrom 3 1 none := ⟨wsU_c2 141 rfl rfl, wsU_c2 139 rfl rfl, wsU_c2 140 rfl rfl, wsU_c1 3 rfl rfl, by decide +kernel⟩
theorem wf_X7_39 : Cond.fieldLink "ShardTrails$State" 39 "ShardTrails$State" "tracks" "LShardTrails$Tracks;" ∈ wsU := wsU_c1 199 rfl rfl
theorem pt_7_6 : ∀ k, k < zN → lay k = (0, 7) → k + 10 < zN ∧ lay (k + 10) = (0, 8) := by decide +kernel
theorem wm_X7_85 : Cond.methodLink "ShardTrails$State" 85 yX8_copyFrom ∈ wsU := wsU_c2 143 rfl rfl
theorem zy_X8_copyFrom : zyV yX8_copyFrom cX8_copyFrom 2 1 none := ⟨wsU_c2 146 rfl rfl, wsU_c2 144 rfl rfl, wsU_c2 145 rfl rfl, wsU_c1 5 rfl rfl, by decide +kernel⟩
theorem wf_X7_46 : Cond.fieldLink "ShardTrails$State" 46 "ShardTrails$State" "herd" "LShardTrails$Herd;" ∈ wsU := wsU_c1 202 rfl rfl
theorem pt_7_7 : ∀ k, k < zN → lay k = (0, 7) → k + 13 < zN ∧ lay (k + 13) = (0, 0) := by decide +kernel
theorem wm_X7_88 : Cond.methodLink "ShardTrails$State" 88 yX0_copyFrom ∈ wsU := wsU_c2 148 rfl rfl
theorem zy_X0_copyFrom : zyV yX0_copyFrom cX0_copyFrom 2 1 none := ⟨wsU_c2 151 rfl rfl, wsU_c2 149 rfl rfl, wsU_c2 150 rfl rfl, wsU_c1 6 rfl rfl, by decide +kernel⟩
theorem wf_X7_53 : Cond.fieldLink "ShardTrails$State" 53 "ShardTrails$State" "pack" "LShardTrails$Pack;" ∈ wsU := wsU_c1 205 rfl rfl
theorem pt_7_8 : ∀ k, k < zN → lay k = (0, 7) → k + 18 < zN ∧ lay (k + 18) = (0, 3) := by decide +kernel
theorem wm_X7_91 : Cond.methodLink "ShardTrails$State" 91 yX3_copyFrom ∈ wsU := wsU_c2 153 rfl rfl
theorem zy_X3_copyFrom : zyV yX3_copyFrom cX3_copyFrom 2 1 none := ⟨wsU_c2 156 rfl rfl, wsU_c2 154 rfl rfl, wsU_c2 155 rfl rfl, wsU_c1 7 rfl rfl, by decide +kernel⟩
theorem wf_X7_60 : Cond.fieldLink "ShardTrails$State" 60 "ShardTrails$State" "readers" "LShardTrails$Readers;" ∈ wsU := wsU_c1 207 rfl rfl
theorem pt_7_9 : ∀ k, k < zN → lay k = (0, 7) → k + 21 < zN ∧ lay (k + 21) = (0, 4) := by decide +kernel
theorem wm_X7_94 : Cond.methodLink "ShardTrails$State" 94 yX4_copyFrom ∈ wsU := wsU_c2 158 rfl rfl
theorem zy_X4_copyFrom : zyV yX4_copyFrom cX4_copyFrom 2 1 none := ⟨wsU_c2 161 rfl rfl, wsU_c2 159 rfl rfl, wsU_c2 160 rfl rfl, wsU_c1 8 rfl rfl, by decide +kernel⟩
theorem wm_X9_318 : Cond.methodLink "ShardTrails" 318 Lib.Math.min.name ∈ wsU := wsU_c2 132 rfl rfl
theorem zm_min : Cond.static Lib.Math.min.name ∈ wsU ∧ Cond.initialized "java/lang/Math" ∈ wsU ∧ Cond.code Lib.Math.min.name Lib.Math.min.code 2 (some .int) ∈ wsU := ⟨wsU_c2 133 rfl rfl, wsU_c1 13 rfl rfl, wsU_c2 134 rfl rfl⟩
theorem wm_X9_323 : Cond.methodLink "ShardTrails" 323 arraycopyName ∈ wsU := wsU_c2 135 rfl rfl
theorem zcp_n : Cond.native arraycopyName ∈ wsU := wsU_c2 137 rfl rfl
theorem zcp_s : Cond.static arraycopyName ∈ wsU := wsU_c2 136 rfl rfl
theorem zcp_i : Cond.initialized "java/lang/System" ∈ wsU := wsU_c1 14 rfl rfl
theorem wf_X0_9 : Cond.fieldLink "ShardTrails$Herd" 9 "ShardTrails$Herd" "at" "[I" ∈ wsU := wsU_c1 111 rfl rfl
theorem pt_0_0 : ∀ k, k < zN → lay k = (0, 0) → k + 1 < zN ∧ lay (k + 1) = (1, 16) := by decide +kernel
theorem wn_X0_24 : ("ShardTrails$Herd", 24, yX9_copyRow, "ShardTrails") ∈ zNest := List.mem_of_getElem? (i := 10) (by decide +kernel)
theorem wf_X0_15 : Cond.fieldLink "ShardTrails$Herd" 15 "ShardTrails$Herd" "heat" "[I" ∈ wsU := wsU_c1 115 rfl rfl
theorem pt_0_1 : ∀ k, k < zN → lay k = (0, 0) → k + 2 < zN ∧ lay (k + 2) = (1, 16) := by decide +kernel
theorem wf_X0_18 : Cond.fieldLink "ShardTrails$Herd" 18 "ShardTrails$Herd" "moves" "[I" ∈ wsU := wsU_c1 117 rfl rfl
theorem pt_0_2 : ∀ k, k < zN → lay k = (0, 0) → k + 3 < zN ∧ lay (k + 3) = (1, 16) := by decide +kernel
theorem wf_X0_21 : Cond.fieldLink "ShardTrails$Herd" 21 "ShardTrails$Herd" "values" "[I" ∈ wsU := wsU_c1 120 rfl rfl
theorem pt_0_3 : ∀ k, k < zN → lay k = (0, 0) → k + 4 < zN ∧ lay (k + 4) = (1, 256) := by decide +kernel
theorem wf_X2_37 : Cond.fieldLink "ShardTrails$Land" 37 "ShardTrails$Land" "number" "I" ∈ wsU := wsU_c1 49 rfl rfl
theorem wf_X2_9 : Cond.fieldLink "ShardTrails$Land" 9 "ShardTrails$Land" "latitude" "[I" ∈ wsU := wsU_c1 53 rfl rfl
theorem pt_2_1 : ∀ k, k < zN → lay k = (0, 2) → k + 1 < zN ∧ lay (k + 1) = (1, 8) := by decide +kernel
theorem wn_X2_41 : ("ShardTrails$Land", 41, yX9_copyRow, "ShardTrails") ∈ zNest := List.mem_of_getElem? (i := 8) (by decide +kernel)
theorem wf_X2_15 : Cond.fieldLink "ShardTrails$Land" 15 "ShardTrails$Land" "room" "[I" ∈ wsU := wsU_c1 56 rfl rfl
theorem pt_2_2 : ∀ k, k < zN → lay k = (0, 2) → k + 2 < zN ∧ lay (k + 2) = (1, 8) := by decide +kernel
theorem wf_X2_18 : Cond.fieldLink "ShardTrails$Land" 18 "ShardTrails$Land" "herdSize" "[I" ∈ wsU := wsU_c1 58 rfl rfl
theorem pt_2_3 : ∀ k, k < zN → lay k = (0, 2) → k + 3 < zN ∧ lay (k + 3) = (1, 8) := by decide +kernel
theorem wf_X2_21 : Cond.fieldLink "ShardTrails$Land" 21 "ShardTrails$Land" "sentTo" "[I" ∈ wsU := wsU_c1 61 rfl rfl
theorem pt_2_4 : ∀ k, k < zN → lay k = (0, 2) → k + 4 < zN ∧ lay (k + 4) = (1, 8) := by decide +kernel
theorem wf_X2_28 : Cond.fieldLink "ShardTrails$Land" 28 "ShardTrails$Land" "posted" "[I" ∈ wsU := wsU_c1 68 rfl rfl
theorem pt_2_6 : ∀ k, k < zN → lay k = (0, 2) → k + 6 < zN ∧ lay (k + 6) = (1, 128) := by decide +kernel
theorem wf_X2_24 : Cond.fieldLink "ShardTrails$Land" 24 "ShardTrails$Land" "inn" "[Z" ∈ wsU := wsU_c1 64 rfl rfl
theorem pt_2_5 : ∀ k, k < zN → lay k = (0, 2) → k + 5 < zN ∧ lay (k + 5) = (2, 8) := by decide +kernel
theorem wf_X3_18 : Cond.fieldLink "ShardTrails$Pack" 18 "ShardTrails$Pack" "number" "I" ∈ wsU := wsU_c1 137 rfl rfl
theorem wf_X3_9 : Cond.fieldLink "ShardTrails$Pack" 9 "ShardTrails$Pack" "at" "[I" ∈ wsU := wsU_c1 140 rfl rfl
theorem pt_3_1 : ∀ k, k < zN → lay k = (0, 3) → k + 1 < zN ∧ lay (k + 1) = (1, 3) := by decide +kernel
theorem wn_X3_22 : ("ShardTrails$Pack", 22, yX9_copyRow, "ShardTrails") ∈ zNest := List.mem_of_getElem? (i := 11) (by decide +kernel)
theorem wf_X3_15 : Cond.fieldLink "ShardTrails$Pack" 15 "ShardTrails$Pack" "stride" "[I" ∈ wsU := wsU_c1 142 rfl rfl
theorem pt_3_2 : ∀ k, k < zN → lay k = (0, 3) → k + 2 < zN ∧ lay (k + 2) = (1, 3) := by decide +kernel
theorem wf_X4_30 : Cond.fieldLink "ShardTrails$Readers" 30 "ShardTrails$Readers" "number" "I" ∈ wsU := wsU_c1 156 rfl rfl
theorem wf_X4_9 : Cond.fieldLink "ShardTrails$Readers" 9 "ShardTrails$Readers" "home" "[I" ∈ wsU := wsU_c1 158 rfl rfl
theorem pt_4_1 : ∀ k, k < zN → lay k = (0, 4) → k + 1 < zN ∧ lay (k + 1) = (1, 6) := by decide +kernel
theorem wn_X4_34 : ("ShardTrails$Readers", 34, yX9_copyRow, "ShardTrails") ∈ zNest := List.mem_of_getElem? (i := 12) (by decide +kernel)
theorem wf_X4_15 : Cond.fieldLink "ShardTrails$Readers" 15 "ShardTrails$Readers" "requests" "[I" ∈ wsU := wsU_c1 160 rfl rfl
theorem pt_4_2 : ∀ k, k < zN → lay k = (0, 4) → k + 2 < zN ∧ lay (k + 2) = (1, 6) := by decide +kernel
theorem wf_X4_18 : Cond.fieldLink "ShardTrails$Readers" 18 "ShardTrails$Readers" "hops" "[I" ∈ wsU := wsU_c1 162 rfl rfl
theorem pt_4_3 : ∀ k, k < zN → lay k = (0, 4) → k + 3 < zN ∧ lay (k + 3) = (1, 6) := by decide +kernel
theorem wf_X4_21 : Cond.fieldLink "ShardTrails$Readers" 21 "ShardTrails$Readers" "cries" "[I" ∈ wsU := wsU_c1 164 rfl rfl
theorem pt_4_4 : ∀ k, k < zN → lay k = (0, 4) → k + 4 < zN ∧ lay (k + 4) = (1, 6) := by decide +kernel
theorem wf_X4_24 : Cond.fieldLink "ShardTrails$Readers" 24 "ShardTrails$Readers" "mostHops" "[I" ∈ wsU := wsU_c1 166 rfl rfl
theorem pt_4_5 : ∀ k, k < zN → lay k = (0, 4) → k + 5 < zN ∧ lay (k + 5) = (1, 6) := by decide +kernel
theorem wf_X4_27 : Cond.fieldLink "ShardTrails$Readers" 27 "ShardTrails$Readers" "memory" "[I" ∈ wsU := wsU_c1 168 rfl rfl
theorem pt_4_6 : ∀ k, k < zN → lay k = (0, 4) → k + 6 < zN ∧ lay (k + 6) = (1, 96) := by decide +kernel
theorem wf_X8_9 : Cond.fieldLink "ShardTrails$Tracks" 9 "ShardTrails$Tracks" "leadsTo" "[I" ∈ wsU := wsU_c1 95 rfl rfl
theorem pt_8_0 : ∀ k, k < zN → lay k = (0, 8) → k + 1 < zN ∧ lay (k + 1) = (1, 128) := by decide +kernel
theorem wn_X8_24 : ("ShardTrails$Tracks", 24, yX9_copyRow, "ShardTrails") ∈ zNest := List.mem_of_getElem? (i := 9) (by decide +kernel)
theorem wf_X8_15 : Cond.fieldLink "ShardTrails$Tracks" 15 "ShardTrails$Tracks" "leftOn" "[I" ∈ wsU := wsU_c1 98 rfl rfl
theorem pt_8_1 : ∀ k, k < zN → lay k = (0, 8) → k + 2 < zN ∧ lay (k + 2) = (1, 128) := by decide +kernel
theorem wm_X9_65 : Cond.methodLink "ShardTrails" 65 yX9_isPasture ∈ wsU := wsU_c2 171 rfl rfl
theorem zy_X9_isPasture : zyV yX9_isPasture cX9_isPasture 2 1 (some .boolean) := ⟨wsU_c2 174 rfl rfl, wsU_c2 173 rfl rfl, wsU_c0 0 rfl rfl, wsU_c1 1 rfl rfl, by decide +kernel⟩
theorem wf_X9_99 : Cond.fieldLink "ShardTrails" 99 "ShardTrails$State" "readers" "LShardTrails$Readers;" ∈ wsU := wsU_c1 209 rfl rfl
theorem lc_22 : 22 < zN ∧ lay 22 = (0, 4) := by decide +kernel
theorem wf_X9_103 : Cond.fieldLink "ShardTrails" 103 "ShardTrails$Readers" "number" "I" ∈ wsU := wsU_c1 157 rfl rfl
theorem wm_X9_106 : Cond.methodLink "ShardTrails" 106 yX4_join ∈ wsU := wsU_c2 206 rfl rfl
theorem zy_X4_join : zyV yX4_join cX4_join 4 1 (some .int) := ⟨wsU_c2 209 rfl rfl, wsU_c2 207 rfl rfl, wsU_c2 208 rfl rfl, wsU_c1 8 rfl rfl, by decide +kernel⟩
theorem wn_X4_38 : ("ShardTrails$Readers", 38, yX9_cell, "ShardTrails") ∈ zNest := List.mem_of_getElem? (i := 14) (by decide +kernel)
theorem zy_X9_cell : zyS yX9_cell cX9_cell 2 2 (some .int) := ⟨wsU_c2 185 rfl rfl, wsU_c2 184 rfl rfl, wsU_c1 1 rfl rfl, by decide +kernel⟩
theorem wf_X9_88 : Cond.fieldLink "ShardTrails" 88 "ShardTrails$State" "pack" "LShardTrails$Pack;" ∈ wsU := wsU_c1 206 rfl rfl
theorem lc_19 : 19 < zN ∧ lay 19 = (0, 3) := by decide +kernel
theorem wf_X9_92 : Cond.fieldLink "ShardTrails" 92 "ShardTrails$Pack" "number" "I" ∈ wsU := wsU_c1 138 rfl rfl
theorem wm_X9_95 : Cond.methodLink "ShardTrails" 95 yX3_join ∈ wsU := wsU_c2 194 rfl rfl
theorem zy_X3_join : zyV yX3_join cX3_join 4 2 (some .int) := ⟨wsU_c2 197 rfl rfl, wsU_c2 195 rfl rfl, wsU_c2 196 rfl rfl, wsU_c1 7 rfl rfl, by decide +kernel⟩
theorem wf_X9_39 : Cond.fieldLink "ShardTrails" 39 "ShardTrails" "text" "LShardTrails$RequestText;" ∈ wsU := wsU_c2 97 rfl rfl
theorem lc_210 : 210 < zN ∧ lay 210 = (0, 5) := by decide +kernel
theorem wf_X9_165 : Cond.fieldLink "ShardTrails" 165 "ShardTrails$RequestText" "length" "I" ∈ wsU := wsU_c2 65 rfl rfl
theorem wf_X9_121 : Cond.fieldLink "ShardTrails" 121 "ShardTrails$State" "day" "I" ∈ wsU := wsU_c1 187 rfl rfl
theorem wm_X9_298 : Cond.methodLink "ShardTrails" 298 yX7_season ∈ wsU := wsU_c4 49 rfl rfl
theorem zy_X7_season : zyV yX7_season cX7_season 2 0 (some .int) := ⟨wsU_c3 31 rfl rfl, wsU_c3 29 rfl rfl, wsU_c3 30 rfl rfl, wsU_c1 2 rfl rfl, by decide +kernel⟩
theorem wm_X9_207 : Cond.methodLink "ShardTrails" 207 yX7_seasonLatitude ∈ wsU := wsU_c3 224 rfl rfl
theorem zy_X7_seasonLatitude : zyV yX7_seasonLatitude cX7_seasonLatitude 1 0 (some .int) := ⟨wsU_c3 27 rfl rfl, wsU_c3 25 rfl rfl, wsU_c3 26 rfl rfl, wsU_c1 2 rfl rfl, by decide +kernel⟩
theorem wm_X9_84 : Cond.methodLink "ShardTrails" 84 yX2_inns ∈ wsU := wsU_c2 186 rfl rfl
theorem zy_X2_inns : zyV yX2_inns cX2_inns 3 0 (some .int) := ⟨wsU_c2 189 rfl rfl, wsU_c2 187 rfl rfl, wsU_c2 188 rfl rfl, wsU_c1 3 rfl rfl, by decide +kernel⟩
theorem wf_X9_198 : Cond.fieldLink "ShardTrails" 198 "ShardTrails$State" "tracks" "LShardTrails$Tracks;" ∈ wsU := wsU_c1 201 rfl rfl
theorem lc_11 : 11 < zN ∧ lay 11 = (0, 8) := by decide +kernel
theorem wm_X9_301 : Cond.methodLink "ShardTrails" 301 yX8_countAll ∈ wsU := wsU_c4 50 rfl rfl
theorem zy_X8_countAll : zyV yX8_countAll cX8_countAll 3 0 (some .int) := ⟨wsU_c4 53 rfl rfl, wsU_c4 51 rfl rfl, wsU_c4 52 rfl rfl, wsU_c1 5 rfl rfl, by decide +kernel⟩
theorem wf_X9_130 : Cond.fieldLink "ShardTrails" 130 "ShardTrails$State" "herd" "LShardTrails$Herd;" ∈ wsU := wsU_c1 204 rfl rfl
theorem lc_14 : 14 < zN ∧ lay 14 = (0, 0) := by decide +kernel
theorem wf_X9_239 : Cond.fieldLink "ShardTrails" 239 "ShardTrails$Herd" "moves" "[I" ∈ wsU := wsU_c1 119 rfl rfl
theorem lc_17 : 17 < zN ∧ lay 17 = (1, 16) := by decide +kernel
theorem wm_X9_304 : Cond.methodLink "ShardTrails" 304 yX9_sum ∈ wsU := wsU_c4 55 rfl rfl
theorem zy_X9_sum : zyS yX9_sum cX9_sum 4 2 (some .int) := ⟨wsU_c4 57 rfl rfl, wsU_c4 56 rfl rfl, wsU_c1 1 rfl rfl, by decide +kernel⟩
theorem wf_X9_308 : Cond.fieldLink "ShardTrails" 308 "ShardTrails$State" "cutTracks" "I" ∈ wsU := wsU_c1 189 rfl rfl
theorem wf_X9_311 : Cond.fieldLink "ShardTrails" 311 "ShardTrails$State" "overgrownTracks" "I" ∈ wsU := wsU_c1 191 rfl rfl
theorem wf_X9_258 : Cond.fieldLink "ShardTrails" 258 "ShardTrails$Readers" "requests" "[I" ∈ wsU := wsU_c1 161 rfl rfl
theorem lc_24 : 24 < zN ∧ lay 24 = (1, 6) := by decide +kernel
theorem wf_X9_264 : Cond.fieldLink "ShardTrails" 264 "ShardTrails$Readers" "cries" "[I" ∈ wsU := wsU_c1 165 rfl rfl
theorem lc_26 : 26 < zN ∧ lay 26 = (1, 6) := by decide +kernel
theorem wf_X9_184 : Cond.fieldLink "ShardTrails" 184 "ShardTrails$History" "number" "I" ∈ wsU := wsU_c2 4 rfl rfl
theorem wm_X7_97 : Cond.methodLink "ShardTrails$State" 97 yX7_season ∈ wsU := wsU_c3 28 rfl rfl
theorem wm_X8_36 : Cond.methodLink "ShardTrails$Tracks" 36 yX8_countIn ∈ wsU := wsU_c4 54 rfl rfl
theorem zy_X8_countIn : zyV yX8_countIn cX8_countIn 4 1 (some .int) := ⟨wsU_c3 102 rfl rfl, wsU_c3 100 rfl rfl, wsU_c3 101 rfl rfl, wsU_c1 5 rfl rfl, by decide +kernel⟩
theorem wm_X8_32 : Cond.methodLink "ShardTrails$Tracks" 32 yX8_isAt ∈ wsU := wsU_c3 11 rfl rfl
theorem zy_X8_isAt : zyV yX8_isAt cX8_isAt 3 2 (some .boolean) := ⟨wsU_c3 14 rfl rfl, wsU_c3 12 rfl rfl, wsU_c3 13 rfl rfl, wsU_c1 5 rfl rfl, by decide +kernel⟩
theorem wn_X8_28 : ("ShardTrails$Tracks", 28, yX9_cell, "ShardTrails") ∈ zNest := List.mem_of_getElem? (i := 15) (by decide +kernel)
theorem wm_X9_149 : Cond.methodLink "ShardTrails" 149 yX7_tracksInReach ∈ wsU := wsU_c3 95 rfl rfl
theorem zy_X7_tracksInReach : zyV yX7_tracksInReach cX7_tracksInReach 3 1 (some .int) := ⟨wsU_c3 98 rfl rfl, wsU_c3 96 rfl rfl, wsU_c3 97 rfl rfl, wsU_c1 2 rfl rfl, by decide +kernel⟩
theorem wm_X9_152 : Cond.methodLink "ShardTrails" 152 yX7_letWolfCut ∈ wsU := wsU_c3 103 rfl rfl
theorem zy_X7_letWolfCut : zyV yX7_letWolfCut cX7_letWolfCut 4 1 (some .int) := ⟨wsU_c3 6 rfl rfl, wsU_c3 4 rfl rfl, wsU_c3 5 rfl rfl, wsU_c1 2 rfl rfl, by decide +kernel⟩
theorem wf_X7_128 : Cond.fieldLink "ShardTrails$State" 128 "ShardTrails$Pack" "at" "[I" ∈ wsU := wsU_c1 141 rfl rfl
theorem wf_X7_131 : Cond.fieldLink "ShardTrails$State" 131 "ShardTrails$Land" "inn" "[Z" ∈ wsU := wsU_c1 67 rfl rfl
theorem wm_X7_135 : Cond.methodLink "ShardTrails$State" 135 yX8_removeLeftUntil ∈ wsU := wsU_c3 7 rfl rfl
theorem zy_X8_removeLeftUntil : zyV yX8_removeLeftUntil cX8_removeLeftUntil 5 2 (some .int) := ⟨wsU_c3 10 rfl rfl, wsU_c3 8 rfl rfl, wsU_c3 9 rfl rfl, wsU_c1 5 rfl rfl, by decide +kernel⟩
theorem wm_X7_139 : Cond.methodLink "ShardTrails$State" 139 yX8_countIn ∈ wsU := wsU_c3 99 rfl rfl
theorem wf_X9_19 : Cond.fieldLink "ShardTrails" 19 "ShardTrails" "snapshot" "LShardTrails$State;" ∈ wsU := wsU_c2 94 rfl rfl
theorem lc_59 : 59 < zN ∧ lay 59 = (0, 7) := by decide +kernel
theorem wm_X9_188 : Cond.methodLink "ShardTrails" 188 yX7_copyFrom ∈ wsU := wsU_c3 214 rfl rfl
theorem wf_X9_191 : Cond.fieldLink "ShardTrails" 191 "ShardTrails" "hasSnapshot" "Z" ∈ wsU := wsU_c2 98 rfl rfl
theorem wm_X9_127 : Cond.methodLink "ShardTrails" 127 yX9_isShard ∈ wsU := wsU_c3 81 rfl rfl
theorem zy_X9_isShard : zyS yX9_isShard cX9_isShard 1 1 (some .boolean) := ⟨wsU_c3 83 rfl rfl, wsU_c3 82 rfl rfl, wsU_c1 1 rfl rfl, by decide +kernel⟩
theorem wf_X9_134 : Cond.fieldLink "ShardTrails" 134 "ShardTrails$Herd" "at" "[I" ∈ wsU := wsU_c1 113 rfl rfl
theorem lc_15 : 15 < zN ∧ lay 15 = (1, 16) := by decide +kernel
theorem wm_X9_139 : Cond.methodLink "ShardTrails" 139 yX2_hasRoom ∈ wsU := wsU_c3 84 rfl rfl
theorem zy_X2_hasRoom : zyV yX2_hasRoom cX2_hasRoom 2 1 (some .boolean) := ⟨wsU_c3 47 rfl rfl, wsU_c3 45 rfl rfl, wsU_c3 46 rfl rfl, wsU_c1 3 rfl rfl, by decide +kernel⟩
theorem wm_X9_142 : Cond.methodLink "ShardTrails" 142 yX7_drive ∈ wsU := wsU_c3 85 rfl rfl
theorem zy_X7_drive : zyV yX7_drive cX7_drive 4 2 none := ⟨wsU_c3 59 rfl rfl, wsU_c3 57 rfl rfl, wsU_c3 58 rfl rfl, wsU_c1 2 rfl rfl, by decide +kernel⟩
theorem wf_X7_149 : Cond.fieldLink "ShardTrails$State" 149 "ShardTrails$Herd" "at" "[I" ∈ wsU := wsU_c1 114 rfl rfl
theorem wm_X7_159 : Cond.methodLink "ShardTrails$State" 159 yX8_leave ∈ wsU := wsU_c3 60 rfl rfl
theorem zy_X8_leave : zyV yX8_leave cX8_leave 5 4 none := ⟨wsU_c3 63 rfl rfl, wsU_c3 61 rfl rfl, wsU_c3 62 rfl rfl, wsU_c1 5 rfl rfl, by decide +kernel⟩
theorem wf_X7_163 : Cond.fieldLink "ShardTrails$State" 163 "ShardTrails$Herd" "moves" "[I" ∈ wsU := wsU_c1 118 rfl rfl
theorem wf_X7_166 : Cond.fieldLink "ShardTrails$State" 166 "ShardTrails$Land" "herdSize" "[I" ∈ wsU := wsU_c1 60 rfl rfl
theorem wf_X9_16 : Cond.fieldLink "ShardTrails" 16 "ShardTrails" "trial" "LShardTrails$State;" ∈ wsU := wsU_c2 93 rfl rfl
theorem lc_30 : 30 < zN ∧ lay 30 = (0, 7) := by decide +kernel
theorem lc_43 : 43 < zN ∧ lay 43 = (0, 0) := by decide +kernel
theorem lc_46 : 46 < zN ∧ lay 46 = (1, 16) := by decide +kernel
theorem wm_X9_295 : Cond.methodLink "ShardTrails" 295 yX7_passDayOfHerd ∈ wsU := wsU_c4 41 rfl rfl
theorem zy_X7_passDayOfHerd : zyV yX7_passDayOfHerd cX7_passDayOfHerd 1 0 none := ⟨wsU_c4 44 rfl rfl, wsU_c4 42 rfl rfl, wsU_c4 43 rfl rfl, wsU_c1 2 rfl rfl, by decide +kernel⟩
theorem wm_X7_101 : Cond.methodLink "ShardTrails$State" 101 yX0_cool ∈ wsU := wsU_c2 231 rfl rfl
theorem zy_X0_cool : zyV yX0_cool cX0_cool 2 0 none := ⟨wsU_c2 234 rfl rfl, wsU_c2 232 rfl rfl, wsU_c2 233 rfl rfl, wsU_c1 6 rfl rfl, by decide +kernel⟩
theorem wm_X7_110 : Cond.methodLink "ShardTrails$State" 110 yX7_driveHerd ∈ wsU := wsU_c3 20 rfl rfl
theorem zy_X7_driveHerd : zyV yX7_driveHerd cX7_driveHerd 7 0 (some .int) := ⟨wsU_c3 23 rfl rfl, wsU_c3 21 rfl rfl, wsU_c3 22 rfl rfl, wsU_c1 2 rfl rfl, by decide +kernel⟩
theorem wm_X7_142 : Cond.methodLink "ShardTrails$State" 142 yX7_seasonLatitude ∈ wsU := wsU_c3 24 rfl rfl
theorem wf_X7_64 : Cond.fieldLink "ShardTrails$State" 64 "ShardTrails$State" "order" "[I" ∈ wsU := wsU_c1 210 rfl rfl
theorem pt_7_10 : ∀ k, k < zN → lay k = (0, 7) → k + 28 < zN ∧ lay (k + 28) = (1, 16) := by decide +kernel
theorem wm_X7_145 : Cond.methodLink "ShardTrails$State" 145 yX0_sortByHeat ∈ wsU := wsU_c3 32 rfl rfl
theorem zy_X0_sortByHeat : zyV yX0_sortByHeat cX0_sortByHeat 4 1 none := ⟨wsU_c3 35 rfl rfl, wsU_c3 33 rfl rfl, wsU_c3 34 rfl rfl, wsU_c1 6 rfl rfl, by decide +kernel⟩
theorem wm_X7_150 : Cond.methodLink "ShardTrails$State" 150 yX2_bestOther ∈ wsU := wsU_c3 40 rfl rfl
theorem zy_X2_bestOther : zyV yX2_bestOther cX2_bestOther 6 2 (some .int) := ⟨wsU_c3 43 rfl rfl, wsU_c3 41 rfl rfl, wsU_c3 42 rfl rfl, wsU_c1 3 rfl rfl, by decide +kernel⟩
theorem wm_X7_153 : Cond.methodLink "ShardTrails$State" 153 yX2_distance ∈ wsU := wsU_c3 55 rfl rfl
theorem zy_X2_distance : zyV yX2_distance cX2_distance 3 2 (some .int) := ⟨wsU_c3 51 rfl rfl, wsU_c3 49 rfl rfl, wsU_c3 50 rfl rfl, wsU_c1 3 rfl rfl, by decide +kernel⟩
theorem wm_X7_156 : Cond.methodLink "ShardTrails$State" 156 yX7_drive ∈ wsU := wsU_c3 56 rfl rfl
theorem wm_X0_34 : Cond.methodLink "ShardTrails$Herd" 34 yX0_isAskedBefore ∈ wsU := wsU_c3 36 rfl rfl
theorem zy_X0_isAskedBefore : zyV yX0_isAskedBefore cX0_isAskedBefore 3 2 (some .boolean) := ⟨wsU_c3 39 rfl rfl, wsU_c3 37 rfl rfl, wsU_c3 38 rfl rfl, wsU_c1 6 rfl rfl, by decide +kernel⟩
theorem wm_X2_61 : Cond.methodLink "ShardTrails$Land" 61 yX2_hasRoom ∈ wsU := wsU_c3 44 rfl rfl
theorem wm_X2_65 : Cond.methodLink "ShardTrails$Land" 65 yX2_distance ∈ wsU := wsU_c3 48 rfl rfl
theorem wm_X2_45 : Cond.methodLink "ShardTrails$Land" 45 Lib.Math.abs.name ∈ wsU := wsU_c3 52 rfl rfl
theorem zm_abs : Cond.static Lib.Math.abs.name ∈ wsU ∧ Cond.initialized "java/lang/Math" ∈ wsU ∧ Cond.code Lib.Math.abs.name Lib.Math.abs.code 1 (some .int) ∈ wsU := ⟨wsU_c3 53 rfl rfl, wsU_c1 13 rfl rfl, wsU_c3 54 rfl rfl⟩
theorem wm_X9_124 : Cond.methodLink "ShardTrails" 124 yX7_passDay ∈ wsU := wsU_c2 227 rfl rfl
theorem zy_X7_passDay : zyV yX7_passDay cX7_passDay 2 0 (some .int) := ⟨wsU_c2 230 rfl rfl, wsU_c2 228 rfl rfl, wsU_c2 229 rfl rfl, wsU_c1 2 rfl rfl, by decide +kernel⟩
theorem wm_X7_104 : Cond.methodLink "ShardTrails$State" 104 yX7_letWolvesGo ∈ wsU := wsU_c2 235 rfl rfl
theorem zy_X7_letWolvesGo : zyV yX7_letWolvesGo cX7_letWolvesGo 2 0 none := ⟨wsU_c2 238 rfl rfl, wsU_c2 236 rfl rfl, wsU_c2 237 rfl rfl, wsU_c1 2 rfl rfl, by decide +kernel⟩
theorem wm_X7_107 : Cond.methodLink "ShardTrails$State" 107 yX7_letTracksGrowOver ∈ wsU := wsU_c3 16 rfl rfl
theorem zy_X7_letTracksGrowOver : zyV yX7_letTracksGrowOver cX7_letTracksGrowOver 2 0 none := ⟨wsU_c3 19 rfl rfl, wsU_c3 17 rfl rfl, wsU_c3 18 rfl rfl, wsU_c1 2 rfl rfl, by decide +kernel⟩
theorem wm_X7_113 : Cond.methodLink "ShardTrails$State" 113 yX7_letInnsPostOnTheirDay ∈ wsU := wsU_c3 64 rfl rfl
theorem zy_X7_letInnsPostOnTheirDay : zyV yX7_letInnsPostOnTheirDay cX7_letInnsPostOnTheirDay 2 0 none := ⟨wsU_c3 67 rfl rfl, wsU_c3 65 rfl rfl, wsU_c3 66 rfl rfl, wsU_c1 2 rfl rfl, by decide +kernel⟩
theorem wm_X7_169 : Cond.methodLink "ShardTrails$State" 169 yX7_letInnsPost ∈ wsU := wsU_c3 68 rfl rfl
theorem zy_X7_letInnsPost : zyV yX7_letInnsPost cX7_letInnsPost 1 0 none := ⟨wsU_c3 71 rfl rfl, wsU_c3 69 rfl rfl, wsU_c3 70 rfl rfl, wsU_c1 2 rfl rfl, by decide +kernel⟩
theorem wm_X7_172 : Cond.methodLink "ShardTrails$State" 172 yX2_tellAll ∈ wsU := wsU_c3 72 rfl rfl
theorem zy_X2_tellAll : zyV yX2_tellAll cX2_tellAll 3 1 none := ⟨wsU_c3 75 rfl rfl, wsU_c3 73 rfl rfl, wsU_c3 74 rfl rfl, wsU_c1 3 rfl rfl, by decide +kernel⟩
theorem wn_X2_51 : ("ShardTrails$Land", 51, yX9_cell, "ShardTrails") ∈ zNest := List.mem_of_getElem? (i := 13) (by decide +kernel)
theorem wm_X2_55 : Cond.methodLink "ShardTrails$Land" 55 arraycopyName ∈ wsU := wsU_c3 76 rfl rfl
theorem wf_X7_119 : Cond.fieldLink "ShardTrails$State" 119 "ShardTrails$Land" "number" "I" ∈ wsU := wsU_c1 52 rfl rfl
theorem wf_X7_116 : Cond.fieldLink "ShardTrails$State" 116 "ShardTrails$Pack" "number" "I" ∈ wsU := wsU_c1 139 rfl rfl
theorem wm_X7_120 : Cond.methodLink "ShardTrails$State" 120 yX3_advance ∈ wsU := wsU_c2 239 rfl rfl
theorem zy_X3_advance : zyV yX3_advance cX3_advance 3 2 none := ⟨wsU_c3 2 rfl rfl, wsU_c3 0 rfl rfl, wsU_c3 1 rfl rfl, wsU_c1 7 rfl rfl, by decide +kernel⟩
theorem wm_X7_124 : Cond.methodLink "ShardTrails$State" 124 yX7_letWolfCut ∈ wsU := wsU_c3 3 rfl rfl
theorem wf_X9_195 : Cond.fieldLink "ShardTrails" 195 "ShardTrails$Land" "latitude" "[I" ∈ wsU := wsU_c1 55 rfl rfl
theorem lc_5 : 5 < zN ∧ lay 5 = (1, 8) := by decide +kernel
theorem wf_X9_73 : Cond.fieldLink "ShardTrails" 73 "ShardTrails$Land" "room" "[I" ∈ wsU := wsU_c1 57 rfl rfl
theorem lc_6 : 6 < zN ∧ lay 6 = (1, 8) := by decide +kernel
theorem wf_X9_76 : Cond.fieldLink "ShardTrails" 76 "ShardTrails$Land" "inn" "[Z" ∈ wsU := wsU_c1 65 rfl rfl
theorem lc_9 : 9 < zN ∧ lay 9 = (2, 8) := by decide +kernel
theorem wf_X9_69 : Cond.fieldLink "ShardTrails" 69 "ShardTrails$Land" "herdSize" "[I" ∈ wsU := wsU_c1 59 rfl rfl
theorem lc_7 : 7 < zN ∧ lay 7 = (1, 8) := by decide +kernel
theorem wm_X9_202 : Cond.methodLink "ShardTrails" 202 yX8_countIn ∈ wsU := wsU_c3 223 rfl rfl
theorem wm_X9_210 : Cond.methodLink "ShardTrails" 210 yX2_distance ∈ wsU := wsU_c3 225 rfl rfl
theorem wm_X9_213 : Cond.methodLink "ShardTrails" 213 yX0_heatIn ∈ wsU := wsU_c3 226 rfl rfl
theorem zy_X0_heatIn : zyV yX0_heatIn cX0_heatIn 4 1 (some .int) := ⟨wsU_c3 229 rfl rfl, wsU_c3 227 rfl rfl, wsU_c3 228 rfl rfl, wsU_c1 6 rfl rfl, by decide +kernel⟩
theorem wm_X9_216 : Cond.methodLink "ShardTrails" 216 yX3_countIn ∈ wsU := wsU_c3 230 rfl rfl
theorem zy_X3_countIn : zyV yX3_countIn cX3_countIn 4 1 (some .int) := ⟨wsU_c3 233 rfl rfl, wsU_c3 231 rfl rfl, wsU_c3 232 rfl rfl, wsU_c1 7 rfl rfl, by decide +kernel⟩
theorem wf_X9_217 : Cond.fieldLink "ShardTrails" 217 "ShardTrails$Land" "sentTo" "[I" ∈ wsU := wsU_c1 63 rfl rfl
theorem lc_8 : 8 < zN ∧ lay 8 = (1, 8) := by decide +kernel
theorem wm_X9_146 : Cond.methodLink "ShardTrails" 146 yX7_letInnsPost ∈ wsU := wsU_c3 90 rfl rfl
theorem wm_X9_155 : Cond.methodLink "ShardTrails" 155 yX9_isReader ∈ wsU := wsU_c3 108 rfl rfl
theorem zy_X9_isReader : zyV yX9_isReader cX9_isReader 2 1 (some .boolean) := ⟨wsU_c3 111 rfl rfl, wsU_c3 110 rfl rfl, wsU_c0 1 rfl rfl, wsU_c1 1 rfl rfl, by decide +kernel⟩
theorem wm_X9_158 : Cond.methodLink "ShardTrails" 158 yX9_isKey ∈ wsU := wsU_c3 112 rfl rfl
theorem zy_X9_isKey : zyS yX9_isKey cX9_isKey 1 1 (some .boolean) := ⟨wsU_c3 114 rfl rfl, wsU_c3 113 rfl rfl, wsU_c1 1 rfl rfl, by decide +kernel⟩
theorem wf_X9_32 : Cond.fieldLink "ShardTrails" 32 "ShardTrails" "route" "LShardTrails$Route;" ∈ wsU := wsU_c2 96 rfl rfl
theorem lc_206 : 206 < zN ∧ lay 206 = (0, 6) := by decide +kernel
theorem wm_X9_273 : Cond.methodLink "ShardTrails" 273 yX6_find ∈ wsU := wsU_c3 119 rfl rfl
theorem zy_X6_find : zyV yX6_find cX6_find 7 3 none := ⟨wsU_c3 122 rfl rfl, wsU_c3 120 rfl rfl, wsU_c3 121 rfl rfl, wsU_c1 10 rfl rfl, by decide +kernel⟩
theorem wf_X9_277 : Cond.fieldLink "ShardTrails" 277 "ShardTrails$Route" "hops" "I" ∈ wsU := wsU_c2 22 rfl rfl
theorem wf_X9_279 : Cond.fieldLink "ShardTrails" 279 "ShardTrails$Route" "followed" "I" ∈ wsU := wsU_c2 24 rfl rfl
theorem wf_X9_282 : Cond.fieldLink "ShardTrails" 282 "ShardTrails$Route" "askedInns" "I" ∈ wsU := wsU_c2 26 rfl rfl
theorem wf_X9_285 : Cond.fieldLink "ShardTrails" 285 "ShardTrails$Route" "sentInns" "I" ∈ wsU := wsU_c2 28 rfl rfl
theorem wf_X9_288 : Cond.fieldLink "ShardTrails" 288 "ShardTrails$Route" "cried" "Z" ∈ wsU := wsU_c2 31 rfl rfl
theorem wf_X6_22 : Cond.fieldLink "ShardTrails$Route" 22 "ShardTrails$State" "readers" "LShardTrails$Readers;" ∈ wsU := wsU_c1 208 rfl rfl
theorem wf_X6_28 : Cond.fieldLink "ShardTrails$Route" 28 "ShardTrails$Readers" "memory" "[I" ∈ wsU := wsU_c1 169 rfl rfl
theorem wn_X6_33 : ("ShardTrails$Route", 33, yX9_cell, "ShardTrails") ∈ zNest := List.mem_of_getElem? (i := 16) (by decide +kernel)
theorem wf_X6_37 : Cond.fieldLink "ShardTrails$Route" 37 "ShardTrails$State" "herd" "LShardTrails$Herd;" ∈ wsU := wsU_c1 203 rfl rfl
theorem wf_X6_41 : Cond.fieldLink "ShardTrails$Route" 41 "ShardTrails$Herd" "at" "[I" ∈ wsU := wsU_c1 112 rfl rfl
theorem wm_X6_46 : Cond.methodLink "ShardTrails$Route" 46 yX6_begin ∈ wsU := wsU_c3 124 rfl rfl
theorem zy_X6_begin : zyV yX6_begin cX6_begin 3 1 none := ⟨wsU_c3 127 rfl rfl, wsU_c3 126 rfl rfl, wsU_c0 3 rfl rfl, wsU_c1 10 rfl rfl, by decide +kernel⟩
theorem wm_X6_50 : Cond.methodLink "ShardTrails$Route" 50 yX6_next ∈ wsU := wsU_c3 132 rfl rfl
theorem zy_X6_next : zyV yX6_next cX6_next 6 3 (some .int) := ⟨wsU_c3 135 rfl rfl, wsU_c3 134 rfl rfl, wsU_c0 5 rfl rfl, wsU_c1 10 rfl rfl, by decide +kernel⟩
theorem wm_X6_54 : Cond.methodLink "ShardTrails$Route" 54 yX6_put ∈ wsU := wsU_c3 128 rfl rfl
theorem zy_X6_put : zyV yX6_put cX6_put 2 1 none := ⟨wsU_c3 131 rfl rfl, wsU_c3 130 rfl rfl, wsU_c0 4 rfl rfl, wsU_c1 10 rfl rfl, by decide +kernel⟩
theorem wf_X6_57 : Cond.fieldLink "ShardTrails$Route" 57 "ShardTrails$Route" "hops" "I" ∈ wsU := wsU_c2 20 rfl rfl
theorem wf_X6_61 : Cond.fieldLink "ShardTrails$Route" 61 "ShardTrails$Route" "followed" "I" ∈ wsU := wsU_c2 23 rfl rfl
theorem wf_X6_64 : Cond.fieldLink "ShardTrails$Route" 64 "ShardTrails$Route" "askedInns" "I" ∈ wsU := wsU_c2 25 rfl rfl
theorem wf_X6_67 : Cond.fieldLink "ShardTrails$Route" 67 "ShardTrails$Route" "sentInns" "I" ∈ wsU := wsU_c2 27 rfl rfl
theorem wf_X6_70 : Cond.fieldLink "ShardTrails$Route" 70 "ShardTrails$Route" "cried" "Z" ∈ wsU := wsU_c2 29 rfl rfl
theorem wf_X6_74 : Cond.fieldLink "ShardTrails$Route" 74 "ShardTrails$Route" "length" "I" ∈ wsU := wsU_c2 32 rfl rfl
theorem wf_X6_15 : Cond.fieldLink "ShardTrails$Route" 15 "ShardTrails$Route" "asked" "[Z" ∈ wsU := wsU_c2 36 rfl rfl
theorem lc_208 : 208 < zN ∧ lay 208 = (2, 8) := by decide +kernel
theorem wf_X6_19 : Cond.fieldLink "ShardTrails$Route" 19 "ShardTrails$Route" "sent" "[Z" ∈ wsU := wsU_c2 37 rfl rfl
theorem lc_209 : 209 < zN ∧ lay 209 = (2, 8) := by decide +kernel
theorem wf_X6_9 : Cond.fieldLink "ShardTrails$Route" 9 "ShardTrails$Route" "places" "[I" ∈ wsU := wsU_c2 34 rfl rfl
theorem lc_207 : 207 < zN ∧ lay 207 = (1, 137) := by decide +kernel
theorem wf_X6_77 : Cond.fieldLink "ShardTrails$Route" 77 "ShardTrails$State" "tracks" "LShardTrails$Tracks;" ∈ wsU := wsU_c1 200 rfl rfl
theorem wm_X6_81 : Cond.methodLink "ShardTrails$Route" 81 yX8_isAt ∈ wsU := wsU_c3 136 rfl rfl
theorem wf_X6_90 : Cond.fieldLink "ShardTrails$Route" 90 "ShardTrails$State" "land" "LShardTrails$Land;" ∈ wsU := wsU_c1 198 rfl rfl
theorem wf_X6_94 : Cond.fieldLink "ShardTrails$Route" 94 "ShardTrails$Land" "posted" "[I" ∈ wsU := wsU_c1 69 rfl rfl
theorem wf_X6_87 : Cond.fieldLink "ShardTrails$Route" 87 "ShardTrails$Tracks" "leadsTo" "[I" ∈ wsU := wsU_c1 96 rfl rfl
theorem wm_X6_99 : Cond.methodLink "ShardTrails$Route" 99 yX6_nearestNewInn ∈ wsU := wsU_c3 137 rfl rfl
theorem zy_X6_nearestNewInn : zyV yX6_nearestNewInn cX6_nearestNewInn 7 2 (some .int) := ⟨wsU_c3 140 rfl rfl, wsU_c3 139 rfl rfl, wsU_c0 6 rfl rfl, wsU_c1 10 rfl rfl, by decide +kernel⟩
theorem wf_X6_103 : Cond.fieldLink "ShardTrails$Route" 103 "ShardTrails$Land" "number" "I" ∈ wsU := wsU_c1 51 rfl rfl
theorem wf_X6_106 : Cond.fieldLink "ShardTrails$Route" 106 "ShardTrails$Land" "inn" "[Z" ∈ wsU := wsU_c1 66 rfl rfl
theorem wf_X6_109 : Cond.fieldLink "ShardTrails$Route" 109 "ShardTrails$Land" "latitude" "[I" ∈ wsU := wsU_c1 54 rfl rfl
theorem wm_X6_112 : Cond.methodLink "ShardTrails$Route" 112 yX2_distance ∈ wsU := wsU_c3 141 rfl rfl
theorem wm_X9_172 : Cond.methodLink "ShardTrails" 172 yX5_parse ∈ wsU := wsU_c3 178 rfl rfl
theorem zy_X5_parse : zyV yX5_parse cX5_parse 1 0 (some .int) := ⟨wsU_c3 181 rfl rfl, wsU_c3 179 rfl rfl, wsU_c3 180 rfl rfl, wsU_c1 11 rfl rfl, by decide +kernel⟩
theorem wf_X9_175 : Cond.fieldLink "ShardTrails" 175 "ShardTrails$RequestText" "number" "I" ∈ wsU := wsU_c2 67 rfl rfl
theorem wf_X9_176 : Cond.fieldLink "ShardTrails" 176 "ShardTrails$RequestText" "readers" "[I" ∈ wsU := wsU_c2 69 rfl rfl
theorem lc_211 : 211 < zN ∧ lay 211 = (1, 16) := by decide +kernel
theorem wf_X9_178 : Cond.fieldLink "ShardTrails" 178 "ShardTrails$RequestText" "keys" "[I" ∈ wsU := wsU_c2 71 rfl rfl
theorem lc_212 : 212 < zN ∧ lay 212 = (1, 16) := by decide +kernel
theorem wf_X9_181 : Cond.fieldLink "ShardTrails" 181 "ShardTrails$RequestText" "values" "[I" ∈ wsU := wsU_c2 73 rfl rfl
theorem lc_213 : 213 < zN ∧ lay 213 = (1, 16) := by decide +kernel
theorem wm_X9_161 : Cond.methodLink "ShardTrails" 161 yX9_serve ∈ wsU := wsU_c3 115 rfl rfl
theorem zy_X9_serve : zyV yX9_serve cX9_serve 5 3 (some .int) := ⟨wsU_c3 118 rfl rfl, wsU_c3 117 rfl rfl, wsU_c0 2 rfl rfl, wsU_c1 1 rfl rfl, by decide +kernel⟩
theorem wm_X9_314 : Cond.methodLink "ShardTrails" 314 yX7_noteRequest ∈ wsU := wsU_c3 142 rfl rfl
theorem zy_X7_noteRequest : zyV yX7_noteRequest cX7_noteRequest 5 3 none := ⟨wsU_c3 145 rfl rfl, wsU_c3 143 rfl rfl, wsU_c3 144 rfl rfl, wsU_c1 2 rfl rfl, by decide +kernel⟩
theorem wf_X9_254 : Cond.fieldLink "ShardTrails" 254 "ShardTrails$Herd" "values" "[I" ∈ wsU := wsU_c1 121 rfl rfl
theorem lc_18 : 18 < zN ∧ lay 18 = (1, 256) := by decide +kernel
theorem wm_X7_175 : Cond.methodLink "ShardTrails$State" 175 yX4_note ∈ wsU := wsU_c3 146 rfl rfl
theorem zy_X4_note : zyV yX4_note cX4_note 5 4 none := ⟨wsU_c3 149 rfl rfl, wsU_c3 147 rfl rfl, wsU_c3 148 rfl rfl, wsU_c1 8 rfl rfl, by decide +kernel⟩
theorem wm_X7_179 : Cond.methodLink "ShardTrails$State" 179 yX0_warm ∈ wsU := wsU_c3 153 rfl rfl
theorem zy_X0_warm : zyV yX0_warm cX0_warm 3 2 none := ⟨wsU_c3 156 rfl rfl, wsU_c3 154 rfl rfl, wsU_c3 155 rfl rfl, wsU_c1 6 rfl rfl, by decide +kernel⟩
theorem wf_X7_182 : Cond.fieldLink "ShardTrails$State" 182 "ShardTrails$Route" "sent" "[Z" ∈ wsU := wsU_c2 38 rfl rfl
theorem wf_X7_187 : Cond.fieldLink "ShardTrails$State" 187 "ShardTrails$Land" "sentTo" "[I" ∈ wsU := wsU_c1 62 rfl rfl
theorem wm_X0_28 : Cond.methodLink "ShardTrails$Herd" 28 Lib.Math.min.name ∈ wsU := wsU_c3 157 rfl rfl
theorem wf_X4_42 : Cond.fieldLink "ShardTrails$Readers" 42 "ShardTrails$Route" "hops" "I" ∈ wsU := wsU_c2 21 rfl rfl
theorem wf_X4_46 : Cond.fieldLink "ShardTrails$Readers" 46 "ShardTrails$Route" "cried" "Z" ∈ wsU := wsU_c2 30 rfl rfl
theorem wm_X4_50 : Cond.methodLink "ShardTrails$Readers" 50 Lib.Math.max.name ∈ wsU := wsU_c3 150 rfl rfl
theorem zm_max : Cond.static Lib.Math.max.name ∈ wsU ∧ Cond.initialized "java/lang/Math" ∈ wsU ∧ Cond.code Lib.Math.max.name Lib.Math.max.code 2 (some .int) ∈ wsU := ⟨wsU_c3 151 rfl rfl, wsU_c1 13 rfl rfl, wsU_c3 152 rfl rfl⟩
theorem wf_X5_29 : Cond.fieldLink "ShardTrails$RequestText" 29 "ShardTrails$RequestText" "next" "I" ∈ wsU := wsU_c2 75 rfl rfl
theorem wf_X5_32 : Cond.fieldLink "ShardTrails$RequestText" 32 "ShardTrails$RequestText" "number" "I" ∈ wsU := wsU_c2 66 rfl rfl
theorem wm_X5_35 : Cond.methodLink "ShardTrails$RequestText" 35 yX5_parseRequest ∈ wsU := wsU_c3 182 rfl rfl
theorem zy_X5_parseRequest : zyV yX5_parseRequest cX5_parseRequest 2 1 (some .boolean) := ⟨wsU_c3 185 rfl rfl, wsU_c3 184 rfl rfl, wsU_c0 7 rfl rfl, wsU_c1 11 rfl rfl, by decide +kernel⟩
theorem wf_X5_25 : Cond.fieldLink "ShardTrails$RequestText" 25 "ShardTrails$RequestText" "length" "I" ∈ wsU := wsU_c2 64 rfl rfl
theorem wm_X5_39 : Cond.methodLink "ShardTrails$RequestText" 39 yX5_skip ∈ wsU := wsU_c3 194 rfl rfl
theorem zy_X5_skip : zyV yX5_skip cX5_skip 2 1 (some .boolean) := ⟨wsU_c3 197 rfl rfl, wsU_c3 196 rfl rfl, wsU_c0 10 rfl rfl, wsU_c1 11 rfl rfl, by decide +kernel⟩
theorem wm_X5_43 : Cond.methodLink "ShardTrails$RequestText" 43 yX5_isDigit ∈ wsU := wsU_c3 186 rfl rfl
theorem zy_X5_isDigit : zyV yX5_isDigit cX5_isDigit 1 0 (some .boolean) := ⟨wsU_c3 189 rfl rfl, wsU_c3 188 rfl rfl, wsU_c0 8 rfl rfl, wsU_c1 11 rfl rfl, by decide +kernel⟩
theorem wm_X5_47 : Cond.methodLink "ShardTrails$RequestText" 47 yX5_digit ∈ wsU := wsU_c3 190 rfl rfl
theorem zy_X5_digit : zyV yX5_digit cX5_digit 1 0 (some .int) := ⟨wsU_c3 193 rfl rfl, wsU_c3 192 rfl rfl, wsU_c0 9 rfl rfl, wsU_c1 11 rfl rfl, by decide +kernel⟩
theorem wf_X5_9 : Cond.fieldLink "ShardTrails$RequestText" 9 "ShardTrails$RequestText" "readers" "[I" ∈ wsU := wsU_c2 68 rfl rfl
theorem wf_X5_15 : Cond.fieldLink "ShardTrails$RequestText" 15 "ShardTrails$RequestText" "keys" "[I" ∈ wsU := wsU_c2 70 rfl rfl
theorem wm_X5_51 : Cond.methodLink "ShardTrails$RequestText" 51 yX5_parseNumber ∈ wsU := wsU_c3 198 rfl rfl
theorem zy_X5_parseNumber : zyV yX5_parseNumber cX5_parseNumber 4 1 (some .int) := ⟨wsU_c3 201 rfl rfl, wsU_c3 200 rfl rfl, wsU_c0 11 rfl rfl, wsU_c1 11 rfl rfl, by decide +kernel⟩
theorem wf_X5_18 : Cond.fieldLink "ShardTrails$RequestText" 18 "ShardTrails$RequestText" "values" "[I" ∈ wsU := wsU_c2 72 rfl rfl
theorem wf_X5_21 : Cond.fieldLink "ShardTrails$RequestText" 21 "ShardTrails$RequestText" "characters" "[C" ∈ wsU := wsU_c2 74 rfl rfl
theorem lc_214 : 214 < zN ∧ lay 214 = (3, 60) := by decide +kernel
theorem wf_X9_255 : Cond.fieldLink "ShardTrails" 255 "ShardTrails$Readers" "home" "[I" ∈ wsU := wsU_c1 159 rfl rfl
theorem lc_23 : 23 < zN ∧ lay 23 = (1, 6) := by decide +kernel
theorem wf_X9_261 : Cond.fieldLink "ShardTrails" 261 "ShardTrails$Readers" "hops" "[I" ∈ wsU := wsU_c1 163 rfl rfl
theorem lc_25 : 25 < zN ∧ lay 25 = (1, 6) := by decide +kernel
theorem wf_X9_267 : Cond.fieldLink "ShardTrails" 267 "ShardTrails$Readers" "mostHops" "[I" ∈ wsU := wsU_c1 167 rfl rfl
theorem lc_27 : 27 < zN ∧ lay 27 = (1, 6) := by decide +kernel
theorem wf_X9_270 : Cond.fieldLink "ShardTrails" 270 "ShardTrails$Readers" "memory" "[I" ∈ wsU := wsU_c1 170 rfl rfl
theorem lc_28 : 28 < zN ∧ lay 28 = (1, 96) := by decide +kernel
theorem wm_X9_223 : Cond.methodLink "ShardTrails" 223 yX9_cell ∈ wsU := wsU_c3 238 rfl rfl
theorem wf_X9_112 : Cond.fieldLink "ShardTrails" 112 "ShardTrails" "LEAST_NUMBERS" "[I" ∈ wsU := wsU_c2 219 rfl rfl
theorem wf_X9_115 : Cond.fieldLink "ShardTrails" 115 "ShardTrails" "MOST_NUMBERS" "[I" ∈ wsU := wsU_c2 221 rfl rfl
theorem wf_X9_118 : Cond.fieldLink "ShardTrails" 118 "ShardTrails$State" "numbers" "[I" ∈ wsU := wsU_c1 193 rfl rfl
theorem lc_2 : 2 < zN ∧ lay 2 = (1, 6) := by decide +kernel
theorem wm_X9_80 : Cond.methodLink "ShardTrails" 80 yX2_forgetPosted ∈ wsU := wsU_c2 179 rfl rfl
theorem zy_X2_forgetPosted : zyV yX2_forgetPosted cX2_forgetPosted 3 1 none := ⟨wsU_c2 182 rfl rfl, wsU_c2 180 rfl rfl, wsU_c2 181 rfl rfl, wsU_c1 3 rfl rfl, by decide +kernel⟩
theorem wf_X9_109 : Cond.fieldLink "ShardTrails" 109 "ShardTrails$State" "latitudes" "[I" ∈ wsU := wsU_c1 195 rfl rfl
theorem lc_3 : 3 < zN ∧ lay 3 = (1, 4) := by decide +kernel
theorem wf_X9_236 : Cond.fieldLink "ShardTrails" 236 "ShardTrails$Herd" "heat" "[I" ∈ wsU := wsU_c1 116 rfl rfl
theorem lc_16 : 16 < zN ∧ lay 16 = (1, 16) := by decide +kernel
theorem wm_X9_242 : Cond.methodLink "ShardTrails" 242 yX8_countOf ∈ wsU := wsU_c4 4 rfl rfl
theorem zy_X8_countOf : zyV yX8_countOf cX8_countOf 4 1 (some .int) := ⟨wsU_c4 7 rfl rfl, wsU_c4 5 rfl rfl, wsU_c4 6 rfl rfl, wsU_c1 5 rfl rfl, by decide +kernel⟩
theorem wm_X9_245 : Cond.methodLink "ShardTrails" 245 yX0_placeByHeat ∈ wsU := wsU_c4 8 rfl rfl
theorem zy_X0_placeByHeat : zyV yX0_placeByHeat cX0_placeByHeat 4 1 (some .int) := ⟨wsU_c4 11 rfl rfl, wsU_c4 9 rfl rfl, wsU_c4 10 rfl rfl, wsU_c1 6 rfl rfl, by decide +kernel⟩
theorem wm_X9_248 : Cond.methodLink "ShardTrails" 248 yX2_bestOther ∈ wsU := wsU_c4 12 rfl rfl
theorem wm_X9_251 : Cond.methodLink "ShardTrails" 251 yX0_sumOfValues ∈ wsU := wsU_c4 13 rfl rfl
theorem zy_X0_sumOfValues : zyV yX0_sumOfValues cX0_sumOfValues 4 1 (some .int) := ⟨wsU_c4 16 rfl rfl, wsU_c4 14 rfl rfl, wsU_c4 15 rfl rfl, wsU_c1 6 rfl rfl, by decide +kernel⟩
theorem wf_X9_220 : Cond.fieldLink "ShardTrails" 220 "ShardTrails$Tracks" "leadsTo" "[I" ∈ wsU := wsU_c1 97 rfl rfl
theorem lc_12 : 12 < zN ∧ lay 12 = (1, 128) := by decide +kernel
theorem wm_X9_226 : Cond.methodLink "ShardTrails" 226 yX8_isAt ∈ wsU := wsU_c3 239 rfl rfl
theorem wf_X9_230 : Cond.fieldLink "ShardTrails" 230 "ShardTrails$Tracks" "leftOn" "[I" ∈ wsU := wsU_c1 99 rfl rfl
theorem lc_13 : 13 < zN ∧ lay 13 = (1, 128) := by decide +kernel
theorem wf_X9_233 : Cond.fieldLink "ShardTrails" 233 "ShardTrails$Land" "posted" "[I" ∈ wsU := wsU_c1 70 rfl rfl
theorem lc_10 : 10 < zN ∧ lay 10 = (1, 128) := by decide +kernel
theorem wm_X9_168 : Cond.methodLink "ShardTrails" 168 yX5_append ∈ wsU := wsU_c3 166 rfl rfl
theorem zy_X5_append : zyV yX5_append cX5_append 2 1 none := ⟨wsU_c3 169 rfl rfl, wsU_c3 167 rfl rfl, wsU_c3 168 rfl rfl, wsU_c1 11 rfl rfl, by decide +kernel⟩
theorem wm_X9_185 : Cond.methodLink "ShardTrails" 185 yX1_takeBack ∈ wsU := wsU_c3 206 rfl rfl
theorem zy_X1_takeBack : zyV yX1_takeBack cX1_takeBack 2 1 none := ⟨wsU_c3 209 rfl rfl, wsU_c3 207 rfl rfl, wsU_c3 208 rfl rfl, wsU_c1 9 rfl rfl, by decide +kernel⟩
theorem wf_X9_291 : Cond.fieldLink "ShardTrails" 291 "ShardTrails$Route" "length" "I" ∈ wsU := wsU_c2 33 rfl rfl
theorem wf_X9_292 : Cond.fieldLink "ShardTrails" 292 "ShardTrails$Route" "places" "[I" ∈ wsU := wsU_c2 35 rfl rfl
theorem lc_215 : 215 < zN ∧ lay 215 = (0, 10) := by decide +kernel
theorem wm_X10_34 : Cond.methodLink "ShardTrailsModel" 34 yX10_in ∈ wsU := wsU_c4 134 rfl rfl
theorem zy_X10_in : zyS yX10_in cX10_in 3 3 (some .boolean) := ⟨wsU_c4 136 rfl rfl, wsU_c4 135 rfl rfl, wsU_c1 12 rfl rfl, by decide +kernel⟩
theorem wf_X10_7 : Cond.fieldLink "ShardTrailsModel" 7 "ShardTrailsModel" "row" "[I" ∈ wsU := wsU_c4 64 rfl rfl
theorem lc_216 : 216 < zN ∧ lay 216 = (1, 6097) := by decide +kernel
theorem wm_X10_31 : Cond.methodLink "ShardTrailsModel" 31 yX10_record ∈ wsU := wsU_c4 126 rfl rfl
theorem zy_X10_record : zyV yX10_record cX10_record 2 0 none := ⟨wsU_c4 129 rfl rfl, wsU_c4 128 rfl rfl, wsU_c0 13 rfl rfl, wsU_c1 12 rfl rfl, by decide +kernel⟩
theorem wf_X10_19 : Cond.fieldLink "ShardTrailsModel" 19 "ShardTrailsModel" "states" "I" ∈ wsU := wsU_c4 65 rfl rfl
theorem wm_X10_23 : Cond.methodLink "ShardTrailsModel" 23 yX10_copy ∈ wsU := wsU_c4 114 rfl rfl
theorem zy_X10_copy : zyV yX10_copy cX10_copy 4 2 none := ⟨wsU_c4 117 rfl rfl, wsU_c4 116 rfl rfl, wsU_c0 12 rfl rfl, wsU_c1 12 rfl rfl, by decide +kernel⟩
theorem wm_X10_42 : Cond.methodLink "ShardTrailsModel" 42 yX10_isPasture ∈ wsU := wsU_c4 141 rfl rfl
theorem zy_X10_isPasture : zyV yX10_isPasture cX10_isPasture 2 1 (some .boolean) := ⟨wsU_c4 144 rfl rfl, wsU_c4 143 rfl rfl, wsU_c0 14 rfl rfl, wsU_c1 12 rfl rfl, by decide +kernel⟩
theorem wf_X10_156 : Cond.fieldLink "ShardTrailsModel" 156 "ShardTrailsModel" "length" "I" ∈ wsU := wsU_c4 68 rfl rfl
theorem wf_X10_13 : Cond.fieldLink "ShardTrailsModel" 13 "ShardTrailsModel" "text" "[I" ∈ wsU := wsU_c4 67 rfl rfl
theorem lc_217 : 217 < zN ∧ lay 217 = (1, 60) := by decide +kernel
theorem wm_X10_147 : Cond.methodLink "ShardTrailsModel" 147 yX10_isReader ∈ wsU := wsU_c5 38 rfl rfl
theorem zy_X10_isReader : zyV yX10_isReader cX10_isReader 2 1 (some .boolean) := ⟨wsU_c5 41 rfl rfl, wsU_c5 40 rfl rfl, wsU_c0 34 rfl rfl, wsU_c1 12 rfl rfl, by decide +kernel⟩
theorem wm_X10_174 : Cond.methodLink "ShardTrailsModel" 174 yX10_numberAt ∈ wsU := wsU_c5 100 rfl rfl
theorem zy_X10_numberAt : zyV yX10_numberAt cX10_numberAt 4 1 (some .int) := ⟨wsU_c5 103 rfl rfl, wsU_c5 102 rfl rfl, wsU_c0 44 rfl rfl, wsU_c1 12 rfl rfl, by decide +kernel⟩
theorem wm_X10_150 : Cond.methodLink "ShardTrailsModel" 150 yX10_isKey ∈ wsU := wsU_c5 42 rfl rfl
theorem zy_X10_isKey : zyS yX10_isKey cX10_isKey 1 1 (some .boolean) := ⟨wsU_c5 44 rfl rfl, wsU_c5 43 rfl rfl, wsU_c1 12 rfl rfl, by decide +kernel⟩
theorem wm_X10_177 : Cond.methodLink "ShardTrailsModel" 177 yX10_nextBehind ∈ wsU := wsU_c5 104 rfl rfl
theorem zy_X10_nextBehind : zyV yX10_nextBehind cX10_nextBehind 3 1 (some .int) := ⟨wsU_c5 107 rfl rfl, wsU_c5 106 rfl rfl, wsU_c0 45 rfl rfl, wsU_c1 12 rfl rfl, by decide +kernel⟩
theorem wf_X10_159 : Cond.fieldLink "ShardTrailsModel" 159 "ShardTrailsModel" "part" "I" ∈ wsU := wsU_c4 76 rfl rfl
theorem wf_X10_162 : Cond.fieldLink "ShardTrailsModel" 162 "ShardTrailsModel" "digits" "I" ∈ wsU := wsU_c4 77 rfl rfl
theorem wf_X10_165 : Cond.fieldLink "ShardTrailsModel" 165 "ShardTrailsModel" "isZero" "Z" ∈ wsU := wsU_c4 78 rfl rfl
theorem wf_X10_16 : Cond.fieldLink "ShardTrailsModel" 16 "ShardTrailsModel" "way" "[I" ∈ wsU := wsU_c4 69 rfl rfl
theorem lc_218 : 218 < zN ∧ lay 218 = (1, 160) := by decide +kernel
theorem wf_X10_113 : Cond.fieldLink "ShardTrailsModel" 113 "ShardTrailsModel" "wayMany" "I" ∈ wsU := wsU_c4 70 rfl rfl
theorem wm_X10_67 : Cond.methodLink "ShardTrailsModel" 67 yX10_season ∈ wsU := wsU_c5 26 rfl rfl
theorem zy_X10_season : zyV yX10_season cX10_season 1 0 (some .int) := ⟨wsU_c5 29 rfl rfl, wsU_c5 28 rfl rfl, wsU_c0 33 rfl rfl, wsU_c1 12 rfl rfl, by decide +kernel⟩
theorem wm_X10_52 : Cond.methodLink "ShardTrailsModel" 52 yX10_inns ∈ wsU := wsU_c4 161 rfl rfl
theorem zy_X10_inns : zyV yX10_inns cX10_inns 3 0 (some .int) := ⟨wsU_c4 164 rfl rfl, wsU_c4 163 rfl rfl, wsU_c0 18 rfl rfl, wsU_c1 12 rfl rfl, by decide +kernel⟩
theorem wm_X10_202 : Cond.methodLink "ShardTrailsModel" 202 yX10_tracks ∈ wsU := wsU_c5 163 rfl rfl
theorem zy_X10_tracks : zyV yX10_tracks cX10_tracks 3 0 (some .int) := ⟨wsU_c5 166 rfl rfl, wsU_c5 165 rfl rfl, wsU_c0 50 rfl rfl, wsU_c1 12 rfl rfl, by decide +kernel⟩
theorem wm_X10_38 : Cond.methodLink "ShardTrailsModel" 38 yX10_hasInn ∈ wsU := wsU_c4 157 rfl rfl
theorem zy_X10_hasInn : zyV yX10_hasInn cX10_hasInn 2 1 (some .boolean) := ⟨wsU_c4 160 rfl rfl, wsU_c4 159 rfl rfl, wsU_c0 17 rfl rfl, wsU_c1 12 rfl rfl, by decide +kernel⟩
theorem wm_X10_83 : Cond.methodLink "ShardTrailsModel" 83 yX10_tracksIn ∈ wsU := wsU_c4 210 rfl rfl
theorem zy_X10_tracksIn : zyV yX10_tracksIn cX10_tracksIn 4 1 (some .int) := ⟨wsU_c4 213 rfl rfl, wsU_c4 212 rfl rfl, wsU_c0 21 rfl rfl, wsU_c1 12 rfl rfl, by decide +kernel⟩
theorem wm_X10_80 : Cond.methodLink "ShardTrailsModel" 80 yX10_hasTrack ∈ wsU := wsU_c4 214 rfl rfl
theorem zy_X10_hasTrack : zyV yX10_hasTrack cX10_hasTrack 3 2 (some .boolean) := ⟨wsU_c4 217 rfl rfl, wsU_c4 216 rfl rfl, wsU_c0 22 rfl rfl, wsU_c1 12 rfl rfl, by decide +kernel⟩
theorem wm_X10_70 : Cond.methodLink "ShardTrailsModel" 70 yX10_at ∈ wsU := wsU_c4 203 rfl rfl
theorem zy_X10_at : zyS yX10_at cX10_at 3 3 (some .int) := ⟨wsU_c4 205 rfl rfl, wsU_c4 204 rfl rfl, wsU_c1 12 rfl rfl, by decide +kernel⟩
theorem wm_X10_86 : Cond.methodLink "ShardTrailsModel" 86 yX10_cutIn ∈ wsU := wsU_c4 218 rfl rfl
theorem zy_X10_cutIn : zyV yX10_cutIn cX10_cutIn 4 1 (some .int) := ⟨wsU_c4 221 rfl rfl, wsU_c4 220 rfl rfl, wsU_c0 23 rfl rfl, wsU_c1 12 rfl rfl, by decide +kernel⟩
theorem wm_X10_64 : Cond.methodLink "ShardTrailsModel" 64 yX10_latitudeOf ∈ wsU := wsU_c5 22 rfl rfl
theorem zy_X10_latitudeOf : zyV yX10_latitudeOf cX10_latitudeOf 2 1 (some .int) := ⟨wsU_c5 25 rfl rfl, wsU_c5 24 rfl rfl, wsU_c0 32 rfl rfl, wsU_c1 12 rfl rfl, by decide +kernel⟩
theorem wm_X10_95 : Cond.methodLink "ShardTrailsModel" 95 yX10_orderOf ∈ wsU := wsU_c5 10 rfl rfl
theorem zy_X10_orderOf : zyV yX10_orderOf cX10_orderOf 4 1 (some .int) := ⟨wsU_c5 13 rfl rfl, wsU_c5 12 rfl rfl, wsU_c0 29 rfl rfl, wsU_c1 12 rfl rfl, by decide +kernel⟩
theorem wm_X10_98 : Cond.methodLink "ShardTrailsModel" 98 yX10_lookedAt ∈ wsU := wsU_c5 14 rfl rfl
theorem zy_X10_lookedAt : zyV yX10_lookedAt cX10_lookedAt 5 1 (some .int) := ⟨wsU_c5 17 rfl rfl, wsU_c5 16 rfl rfl, wsU_c0 30 rfl rfl, wsU_c1 12 rfl rfl, by decide +kernel⟩
theorem wm_X10_92 : Cond.methodLink "ShardTrailsModel" 92 yX10_distanceOf ∈ wsU := wsU_c5 18 rfl rfl
theorem zy_X10_distanceOf : zyV yX10_distanceOf cX10_distanceOf 3 1 (some .int) := ⟨wsU_c5 21 rfl rfl, wsU_c5 20 rfl rfl, wsU_c0 31 rfl rfl, wsU_c1 12 rfl rfl, by decide +kernel⟩
theorem wm_X10_77 : Cond.methodLink "ShardTrailsModel" 77 yX10_go ∈ wsU := wsU_c4 199 rfl rfl
theorem zy_X10_go : zyV yX10_go cX10_go 4 2 none := ⟨wsU_c4 202 rfl rfl, wsU_c4 201 rfl rfl, wsU_c0 20 rfl rfl, wsU_c1 12 rfl rfl, by decide +kernel⟩
theorem wm_X10_45 : Cond.methodLink "ShardTrailsModel" 45 yX10_shardsIn ∈ wsU := wsU_c4 145 rfl rfl
theorem zy_X10_shardsIn : zyV yX10_shardsIn cX10_shardsIn 4 1 (some .int) := ⟨wsU_c4 148 rfl rfl, wsU_c4 147 rfl rfl, wsU_c0 15 rfl rfl, wsU_c1 12 rfl rfl, by decide +kernel⟩
theorem wm_X10_49 : Cond.methodLink "ShardTrailsModel" 49 yX10_roomOf ∈ wsU := wsU_c4 149 rfl rfl
theorem zy_X10_roomOf : zyV yX10_roomOf cX10_roomOf 2 1 (some .int) := ⟨wsU_c4 152 rfl rfl, wsU_c4 151 rfl rfl, wsU_c0 16 rfl rfl, wsU_c1 12 rfl rfl, by decide +kernel⟩
theorem wm_X10_168 : Cond.methodLink "ShardTrailsModel" 168 yX10_begin ∈ wsU := wsU_c5 88 rfl rfl
theorem zy_X10_begin : zyV yX10_begin cX10_begin 2 1 none := ⟨wsU_c5 91 rfl rfl, wsU_c5 90 rfl rfl, wsU_c0 41 rfl rfl, wsU_c1 12 rfl rfl, by decide +kernel⟩
theorem wm_X10_171 : Cond.methodLink "ShardTrailsModel" 171 yX10_read ∈ wsU := wsU_c5 92 rfl rfl
theorem zy_X10_read : zyV yX10_read cX10_read 3 1 (some .boolean) := ⟨wsU_c5 95 rfl rfl, wsU_c5 94 rfl rfl, wsU_c0 42 rfl rfl, wsU_c1 12 rfl rfl, by decide +kernel⟩
theorem wf_X10_131 : Cond.fieldLink "ShardTrailsModel" 131 "ShardTrailsModel" "hops" "I" ∈ wsU := wsU_c4 71 rfl rfl
theorem wf_X10_125 : Cond.fieldLink "ShardTrailsModel" 125 "ShardTrailsModel" "followed" "I" ∈ wsU := wsU_c4 72 rfl rfl
theorem wf_X10_116 : Cond.fieldLink "ShardTrailsModel" 116 "ShardTrailsModel" "asked" "I" ∈ wsU := wsU_c4 73 rfl rfl
theorem wf_X10_119 : Cond.fieldLink "ShardTrailsModel" 119 "ShardTrailsModel" "sent" "I" ∈ wsU := wsU_c4 74 rfl rfl
theorem wf_X10_134 : Cond.fieldLink "ShardTrailsModel" 134 "ShardTrailsModel" "cried" "Z" ∈ wsU := wsU_c4 75 rfl rfl
theorem wm_X10_137 : Cond.methodLink "ShardTrailsModel" 137 yX10_comeTo ∈ wsU := wsU_c5 53 rfl rfl
theorem zy_X10_comeTo : zyV yX10_comeTo cX10_comeTo 2 1 none := ⟨wsU_c5 56 rfl rfl, wsU_c5 55 rfl rfl, wsU_c0 37 rfl rfl, wsU_c1 12 rfl rfl, by decide +kernel⟩
theorem wm_X10_141 : Cond.methodLink "ShardTrailsModel" 141 yX10_stepFrom ∈ wsU := wsU_c5 57 rfl rfl
theorem zy_X10_stepFrom : zyV yX10_stepFrom cX10_stepFrom 5 2 (some .int) := ⟨wsU_c5 60 rfl rfl, wsU_c5 59 rfl rfl, wsU_c0 38 rfl rfl, wsU_c1 12 rfl rfl, by decide +kernel⟩
theorem wm_X10_122 : Cond.methodLink "ShardTrailsModel" 122 yX10_has ∈ wsU := wsU_c5 61 rfl rfl
theorem zy_X10_has : zyS yX10_has cX10_has 2 2 (some .boolean) := ⟨wsU_c5 63 rfl rfl, wsU_c5 62 rfl rfl, wsU_c1 12 rfl rfl, by decide +kernel⟩
theorem wm_X10_128 : Cond.methodLink "ShardTrailsModel" 128 yX10_nextInn ∈ wsU := wsU_c5 64 rfl rfl
theorem zy_X10_nextInn : zyV yX10_nextInn cX10_nextInn 6 1 (some .int) := ⟨wsU_c5 67 rfl rfl, wsU_c5 66 rfl rfl, wsU_c0 39 rfl rfl, wsU_c1 12 rfl rfl, by decide +kernel⟩
theorem wf_X10_27 : Cond.fieldLink "ShardTrailsModel" 27 "ShardTrailsModel" "isKept" "Z" ∈ wsU := wsU_c4 66 rfl rfl
theorem wm_X10_74 : Cond.methodLink "ShardTrailsModel" 74 yX10_isShard ∈ wsU := wsU_c4 196 rfl rfl
theorem zy_X10_isShard : zyS yX10_isShard cX10_isShard 1 1 (some .boolean) := ⟨wsU_c4 198 rfl rfl, wsU_c4 197 rfl rfl, wsU_c1 12 rfl rfl, by decide +kernel⟩
theorem wm_X10_110 : Cond.methodLink "ShardTrailsModel" 110 yX10_passDay ∈ wsU := wsU_c4 234 rfl rfl
theorem zy_X10_passDay : zyV yX10_passDay cX10_passDay 2 0 none := ⟨wsU_c4 237 rfl rfl, wsU_c4 236 rfl rfl, wsU_c0 25 rfl rfl, wsU_c1 12 rfl rfl, by decide +kernel⟩
theorem wm_X10_101 : Cond.methodLink "ShardTrailsModel" 101 yX10_roam ∈ wsU := wsU_c4 238 rfl rfl
theorem zy_X10_roam : zyV yX10_roam cX10_roam 2 0 none := ⟨wsU_c5 1 rfl rfl, wsU_c5 0 rfl rfl, wsU_c0 26 rfl rfl, wsU_c1 12 rfl rfl, by decide +kernel⟩
theorem wm_X10_104 : Cond.methodLink "ShardTrailsModel" 104 yX10_grow ∈ wsU := wsU_c5 2 rfl rfl
theorem zy_X10_grow : zyV yX10_grow cX10_grow 3 0 none := ⟨wsU_c5 5 rfl rfl, wsU_c5 4 rfl rfl, wsU_c0 27 rfl rfl, wsU_c1 12 rfl rfl, by decide +kernel⟩
theorem wm_X10_107 : Cond.methodLink "ShardTrailsModel" 107 yX10_drive ∈ wsU := wsU_c5 6 rfl rfl
theorem zy_X10_drive : zyV yX10_drive cX10_drive 5 0 none := ⟨wsU_c5 9 rfl rfl, wsU_c5 8 rfl rfl, wsU_c0 28 rfl rfl, wsU_c1 12 rfl rfl, by decide +kernel⟩
theorem wm_X10_89 : Cond.methodLink "ShardTrailsModel" 89 yX10_postAll ∈ wsU := wsU_c4 226 rfl rfl
theorem zy_X10_postAll : zyV yX10_postAll cX10_postAll 3 0 none := ⟨wsU_c4 229 rfl rfl, wsU_c4 228 rfl rfl, wsU_c0 24 rfl rfl, wsU_c1 12 rfl rfl, by decide +kernel⟩
theorem wm_X10_187 : Cond.methodLink "ShardTrailsModel" 187 yX10_heatIn ∈ wsU := wsU_c5 112 rfl rfl
theorem zy_X10_heatIn : zyV yX10_heatIn cX10_heatIn 4 1 (some .int) := ⟨wsU_c5 115 rfl rfl, wsU_c5 114 rfl rfl, wsU_c0 46 rfl rfl, wsU_c1 12 rfl rfl, by decide +kernel⟩
theorem wm_X10_190 : Cond.methodLink "ShardTrailsModel" 190 yX10_wolvesIn ∈ wsU := wsU_c5 116 rfl rfl
theorem zy_X10_wolvesIn : zyV yX10_wolvesIn cX10_wolvesIn 4 1 (some .int) := ⟨wsU_c5 119 rfl rfl, wsU_c5 118 rfl rfl, wsU_c0 47 rfl rfl, wsU_c1 12 rfl rfl, by decide +kernel⟩
theorem wm_X10_144 : Cond.methodLink "ShardTrailsModel" 144 yX10_findWay ∈ wsU := wsU_c5 49 rfl rfl
theorem zy_X10_findWay : zyV yX10_findWay cX10_findWay 5 2 none := ⟨wsU_c5 52 rfl rfl, wsU_c5 51 rfl rfl, wsU_c0 36 rfl rfl, wsU_c1 12 rfl rfl, by decide +kernel⟩
theorem wm_X10_199 : Cond.methodLink "ShardTrailsModel" 199 yX10_bits ∈ wsU := wsU_c5 152 rfl rfl
theorem zy_X10_bits : zyS yX10_bits cX10_bits 3 1 (some .int) := ⟨wsU_c5 154 rfl rfl, wsU_c5 153 rfl rfl, wsU_c1 12 rfl rfl, by decide +kernel⟩
theorem wm_X10_180 : Cond.methodLink "ShardTrailsModel" 180 yX10_faultOf ∈ wsU := wsU_c5 84 rfl rfl
theorem zy_X10_faultOf : zyV yX10_faultOf cX10_faultOf 2 0 (some .int) := ⟨wsU_c5 87 rfl rfl, wsU_c5 86 rfl rfl, wsU_c0 40 rfl rfl, wsU_c1 12 rfl rfl, by decide +kernel⟩
theorem wm_X10_183 : Cond.methodLink "ShardTrailsModel" 183 yX10_areKnown ∈ wsU := wsU_c5 96 rfl rfl
theorem zy_X10_areKnown : zyV yX10_areKnown cX10_areKnown 3 0 (some .boolean) := ⟨wsU_c5 99 rfl rfl, wsU_c5 98 rfl rfl, wsU_c0 43 rfl rfl, wsU_c1 12 rfl rfl, by decide +kernel⟩
theorem wm_X10_153 : Cond.methodLink "ShardTrailsModel" 153 yX10_reachFor ∈ wsU := wsU_c5 45 rfl rfl
theorem zy_X10_reachFor : zyV yX10_reachFor cX10_reachFor 6 2 (some .int) := ⟨wsU_c5 48 rfl rfl, wsU_c5 47 rfl rfl, wsU_c0 35 rfl rfl, wsU_c1 12 rfl rfl, by decide +kernel⟩
theorem wm_X10_60 : Cond.methodLink "ShardTrailsModel" 60 yX10_isSetting ∈ wsU := wsU_c4 189 rfl rfl
theorem zy_X10_isSetting : zyS yX10_isSetting cX10_isSetting 2 2 (some .boolean) := ⟨wsU_c4 191 rfl rfl, wsU_c4 190 rfl rfl, wsU_c1 12 rfl rfl, by decide +kernel⟩
theorem wm_X10_56 : Cond.methodLink "ShardTrailsModel" 56 yX10_put ∈ wsU := wsU_c4 181 rfl rfl
theorem zy_X10_put : zyV yX10_put cX10_put 4 2 (some .int) := ⟨wsU_c4 184 rfl rfl, wsU_c4 183 rfl rfl, wsU_c0 19 rfl rfl, wsU_c1 12 rfl rfl, by decide +kernel⟩
theorem wm_X10_193 : Cond.methodLink "ShardTrailsModel" 193 yX10_tracksOf ∈ wsU := wsU_c5 128 rfl rfl
theorem zy_X10_tracksOf : zyV yX10_tracksOf cX10_tracksOf 4 1 (some .int) := ⟨wsU_c5 131 rfl rfl, wsU_c5 130 rfl rfl, wsU_c0 48 rfl rfl, wsU_c1 12 rfl rfl, by decide +kernel⟩
theorem wm_X10_196 : Cond.methodLink "ShardTrailsModel" 196 yX10_sumOf ∈ wsU := wsU_c5 132 rfl rfl
theorem zy_X10_sumOf : zyV yX10_sumOf cX10_sumOf 4 1 (some .int) := ⟨wsU_c5 135 rfl rfl, wsU_c5 134 rfl rfl, wsU_c0 49 rfl rfl, wsU_c1 12 rfl rfl, by decide +kernel⟩
end
section
/-! objects are made one behind another: cell k at the address h0 + k; a reference field holds 0 (null) or 1 (set) -/
def zCd (cas : Nat → ClassId) (h0 : Nat) (k : Nat) (f : Nat → Int) : va_E := match lay k with
  | (0, ci) => .inr (ci, (List.range (nfl ci)).map (fun j => if off ci j = 0 then .int (zI (f j)) else if f j = 0 then .null else .ref (h0 + (k + off ci j))))
  | (1, n) => .inl (cas 0, n, .inl (fun j => zI (f j)))
  | (2, n) => .inl (cas 1, n, .inl (fun j => zI (f j)))
  | (3, n) => .inl (cas 2, n, .inl (fun j => zI (f j)))
  | (_, n) => .inl (cas 3, n, .inr (.inr (.inr (.inr (fun j => if j < 4 ∧ f j = 0 then none else some (h0 + (k + 1 + 29 * j)))))))
theorem zCd_0 {cas : Nat → ClassId} {h0 k ci : Nat} {f : Nat → Int} (h : lay k = (0, ci)) : zCd cas h0 k f = .inr (ci, (List.range (nfl ci)).map (fun j => if off ci j = 0 then .int (zI (f j)) else if f j = 0 then .null else .ref (h0 + (k + off ci j)))) := by simp [zCd, h]
theorem zCd_1 {cas : Nat → ClassId} {h0 k n : Nat} {f : Nat → Int} (h : lay k = (1, n)) : zCd cas h0 k f = .inl (cas 0, n, .inl (fun j => zI (f j))) := by simp [zCd, h]
theorem zCd_2 {cas : Nat → ClassId} {h0 k n : Nat} {f : Nat → Int} (h : lay k = (2, n)) : zCd cas h0 k f = .inl (cas 1, n, .inl (fun j => zI (f j))) := by simp [zCd, h]
theorem zCd_3 {cas : Nat → ClassId} {h0 k n : Nat} {f : Nat → Int} (h : lay k = (3, n)) : zCd cas h0 k f = .inl (cas 2, n, .inl (fun j => zI (f j))) := by simp [zCd, h]
theorem zCd_4 {cas : Nat → ClassId} {h0 k n : Nat} {f : Nat → Int} (h : lay k = (4, n)) : zCd cas h0 k f = .inl (cas 3, n, .inr (.inr (.inr (.inr (fun j => if j < 4 ∧ f j = 0 then none else some (h0 + (k + 1 + 29 * j))))))) := by simp [zCd, h]
def zL (cas : Nat → ClassId) (h0 n : Nat) (M : Mem) : va_W := (List.range n).map (fun k => (h0 + k, zCd cas h0 k (M k)))
def ml (M : Mem) (k : Nat) (f : Nat → Int) : Mem := fun a => if a = k then f else M a
def flM (M : Mem) (k N : Nat) (v : Int) : Mem := ml M k (fun j => if j < N then v else M k j)
theorem zL_get {cas : Nat → ClassId} {h0 n k : Nat} {M : Mem} (h : k < n) : (zL cas h0 n M)[k]? = some (h0 + k, zCd cas h0 k (M k)) := by
  unfold zL
  rw [List.getElem?_map, List.getElem?_range h]
  rfl
theorem zL_out {cas : Nat → ClassId} {h0 n k : Nat} {M : Mem} (h : ¬ k < n) : (zL cas h0 n M)[k]? = none := List.getElem?_eq_none (by simp [zL]; omega)
theorem zL_set {cas : Nat → ClassId} {h0 n k : Nat} {M : Mem} (h : k < n) {x : va_E} {f : Nat → Int} (hx : x = zCd cas h0 k f) : (zL cas h0 n M).set k (h0 + k, x) = zL cas h0 n (ml M k f) := by
  subst hx
  apply List.ext_getElem?
  intro i
  rw [List.getElem?_set]
  by_cases e : k = i
  · subst e
    rw [if_pos rfl, zL_get h]
    simp [ml, zL, h]
  · rw [if_neg e]
    have e2 : ¬ i = k := fun q => e q.symm
    by_cases hi : i < n
    · rw [zL_get hi, zL_get hi]; simp [ml, e2]
    · rw [zL_out hi, zL_out hi]
theorem zL_push {cas : Nat → ClassId} {h0 n : Nat} {M : Mem} {x : va_E} {f : Nat → Int} (hx : x = zCd cas h0 n f) : zL cas h0 n M ++ [(h0 + n, x)] = zL cas h0 (n + 1) (ml M n f) := by
  subst hx
  apply List.ext_getElem?
  intro i
  by_cases h1 : i < n
  · rw [List.getElem?_append_left (by simp [zL]; omega), zL_get h1, zL_get (by omega)]
    have : ¬ i = n := by omega
    simp [ml, this]
  · rw [List.getElem?_append_right (by simp [zL]; omega)]
    by_cases h2 : i = n
    · subst h2
      rw [zL_get (by omega)]
      simp [zL, ml]
    · rw [zL_out (by omega)]
      exact List.getElem?_eq_none (by simp [zL]; omega)
theorem zL_D (cas : Nat → ClassId) (h0 n : Nat) (M : Mem) : va_D (fun q => h0 ≤ q) (zL cas h0 n M) := by
  have key : ∀ (i : Nat) (p : Nat × va_E), (zL cas h0 n M)[i]? = some p → p.1 = h0 + i := by
    intro i p h
    by_cases hl : i < n
    · rw [zL_get hl] at h; cases h; rfl
    · rw [zL_out hl] at h; cases h
  refine ⟨fun i j p q hp hq e => ?_, fun k q hk => ?_⟩
  · have h1 := key i p hp
    have h2 := key j q hq
    omega
  · have h1 := key k q hk
    show h0 ≤ q.1
    omega
def zY (p : Program) (s : State) (m : MethodId) (args : Array Value) (c : Code) (cc : ByteArray) (own : String) (nL : Nat) (D : va_G) (cas : Nat → ClassId) (h0 ne : Nat) : Prop :=
  p.tables.exec = Jvm.exec ∧ c.code = cc ∧ c.maxLocals = nL ∧ s.vm.findClass own = some m.cls ∧ (∀ w ∈ wsU, w.before args s = true) ∧ va_K D vwCl (zT cas) s ∧ zNW s ∧ zST (fun q => h0 ≤ q) s s.heap ∧ s.heap.size = h0 + ne
def WD (p : Program) (l : Launch) (e : Env) (R : Room) (s : State) (m : MethodId) (args : Array Value) (below : List Frame) (meth : Method) (c : Code) (D : va_G) (cas : Nat → ClassId) (h0 : Nat) (nL : Nat) (Q : State → Prop) (cells slots : Nat) (pc : Nat) (lv : List (Nat × Value)) (st : List Value) (n : Nat) (M : Mem) : Prop :=
  ∀ (H : Heap) (locs : List Loc) (ls : Array Slot), va_P D vwCl (zL cas h0 n M) H → va_S (fun q => h0 ≤ q) s.heap H locs → lv_has ls nL lv → W p l e R s m args below meth c H locs cells slots Q (F0 m pc ls st)
section DR
variable {p : Program} {l : Launch} {e : Env} {R : Room} {s : State} {m : MethodId} {args : Array Value} {below : List Frame} {meth : Method} {c : Code} {D : va_G} {cas : Nat → ClassId} {h0 ne nL k0 n0 : Nat} {Q : State → Prop}
variable {cc : ByteArray} {own : String} {pc n : Nat} {lv : List (Nat × Value)} {st : List Value} {M : Mem}
theorem zsz {H : Heap} {locs : List Loc} {g : JFrame} (hs : s.heap.size = h0 + ne) (hkn : k0 + ne = n) (hP : va_P D vwCl (zL cas h0 n M) H) (hS : va_S (fun q => h0 ≤ q) s.heap H locs) (k : H.size = h0 + n → W p l e R s m args below meth c H locs k0 n0 Q g) : W p l e R s m args below meth c H locs k0 n0 Q g := by
  intro T hT X
  refine k ?_ T hT X
  have h1 := X.heapSize
  rw [hT] at h1
  have h2 := hS.1
  rcases Nat.eq_zero_or_pos n with h | h
  · omega
  · have h3 := (hP (n - 1) _ (zL_get (by omega))).lt
    simp only [] at h3
    omega
theorem D_iconst (X : zY p s m args c cc own nL D cas h0 ne) {v : Int} (hd : decode cc pc = .ok (.iconst v, 1)) (k : WD p l e R s m args below meth c D cas h0 nL Q k0 n0 (pc + 1) lv (.int (zI v) :: st) n M) : WD p l e R s m args below meth c D cas h0 nL Q k0 n0 pc lv st n M :=
  fun H locs ls hP hS hl => lv_iconst X.1 X.2.1 hd rfl (k H locs ls hP hS hl)
theorem D_bipush (X : zY p s m args c cc own nL D cas h0 ne) {v : Int} (hd : decode cc pc = .ok (.bipush v, 2)) (hv : (Int8.ofInt v).toInt32 = zI v) (k : WD p l e R s m args below meth c D cas h0 nL Q k0 n0 (pc + 2) lv (.int (zI v) :: st) n M) : WD p l e R s m args below meth c D cas h0 nL Q k0 n0 pc lv st n M :=
  fun H locs ls hP hS hl => lv_bipush X.1 X.2.1 hd hv (k H locs ls hP hS hl)
theorem D_sipush (X : zY p s m args c cc own nL D cas h0 ne) {v : Int} (hd : decode cc pc = .ok (.sipush v, 3)) (hv : (Int16.ofInt v).toInt32 = zI v) (k : WD p l e R s m args below meth c D cas h0 nL Q k0 n0 (pc + 3) lv (.int (zI v) :: st) n M) : WD p l e R s m args below meth c D cas h0 nL Q k0 n0 pc lv st n M :=
  fun H locs ls hP hS hl => lv_sipush X.1 X.2.1 hd hv (k H locs ls hP hS hl)
theorem D_iload_n (X : zY p s m args c cc own nL D cas h0 ne) {k : Fin 4} {i : Nat} {x : Int32} (j : Nat) (hd : decode cc pc = .ok (.iload_n k, 1)) (hi : (k : Nat) = i) (hj : lv[j]? = some (i, .int x)) (kk : WD p l e R s m args below meth c D cas h0 nL Q k0 n0 (pc + 1) lv (.int x :: st) n M) : WD p l e R s m args below meth c D cas h0 nL Q k0 n0 pc lv st n M :=
  fun H locs ls hP hS hl => lv_iload_n X.1 X.2.1 hd hi (lv_at hl j hj) (kk H locs ls hP hS hl)
theorem D_aload_n (X : zY p s m args c cc own nL D cas h0 ne) {k : Fin 4} {i : Nat} {x : Nat} (j : Nat) (hd : decode cc pc = .ok (.aload_n k, 1)) (hi : (k : Nat) = i) (hj : lv[j]? = some (i, .ref x)) (kk : WD p l e R s m args below meth c D cas h0 nL Q k0 n0 (pc + 1) lv (.ref x :: st) n M) : WD p l e R s m args below meth c D cas h0 nL Q k0 n0 pc lv st n M :=
  fun H locs ls hP hS hl => lv_aload_n X.1 X.2.1 hd hi (lv_at hl j hj) (kk H locs ls hP hS hl)
theorem D_istore_n (X : zY p s m args c cc own nL D cas h0 ne) {k : Fin 4} {i : Nat} {x : Int32} {lv' : List (Nat × Value)} (hd : decode cc pc = .ok (.istore_n k, 1)) (hi : (k : Nat) = i) (hn : i < nL) (hl' : (i, Value.int x) :: lv.filter (fun q => !(q.1 == i) && !(q.1 + 1 == i && q.2.category == 2)) = lv') (kk : WD p l e R s m args below meth c D cas h0 nL Q k0 n0 (pc + 1) lv' st n M) : WD p l e R s m args below meth c D cas h0 nL Q k0 n0 pc lv (.int x :: st) n M :=
  fun H locs _ hP hS hl => lv_istore_n X.1 X.2.1 hd hi hl hn hl' (fun ls' h => kk H locs ls' hP hS h)
theorem D_astore_n (X : zY p s m args c cc own nL D cas h0 ne) {k : Fin 4} {i : Nat} {x : Nat} {lv' : List (Nat × Value)} (hd : decode cc pc = .ok (.astore_n k, 1)) (hi : (k : Nat) = i) (hn : i < nL) (hl' : (i, Value.ref x) :: lv.filter (fun q => !(q.1 == i) && !(q.1 + 1 == i && q.2.category == 2)) = lv') (kk : WD p l e R s m args below meth c D cas h0 nL Q k0 n0 (pc + 1) lv' st n M) : WD p l e R s m args below meth c D cas h0 nL Q k0 n0 pc lv (.ref x :: st) n M :=
  fun H locs _ hP hS hl => lv_astore_n X.1 X.2.1 hd hi hl hn hl' (fun ls' h => kk H locs ls' hP hS h)
theorem D_iinc (X : zY p s m args c cc own nL D cas h0 ne) {i : Nat} {v x y : Int} {lv' : List (Nat × Value)} (j : Nat) (hd : decode cc pc = .ok (.iinc i v, 3)) (hj : lv[j]? = some (i, .int (zI x))) (hy : x + v = y) (hn : i < nL) (hl' : (i, Value.int (zI y)) :: lv.filter (fun q => !(q.1 == i) && !(q.1 + 1 == i && q.2.category == 2)) = lv') (kk : WD p l e R s m args below meth c D cas h0 nL Q k0 n0 (pc + 3) lv' st n M) : WD p l e R s m args below meth c D cas h0 nL Q k0 n0 pc lv st n M := by
  subst hy
  exact fun H locs _ hP hS hl => lv_iinc X.1 X.2.1 hd hl hj (zI_add x v) hn hl' (fun ls' h => kk H locs ls' hP hS h)
theorem D_goto (X : zY p s m args c cc own nL D cas h0 ne) {o : Int} (tgt : Nat) (hd : decode cc pc = .ok (.goto o, 3)) (ht : (pc : Int) + o = (tgt : Int)) (k : WD p l e R s m args below meth c D cas h0 nL Q k0 n0 tgt lv st n M) : WD p l e R s m args below meth c D cas h0 nL Q k0 n0 pc lv st n M :=
  fun H locs ls hP hS hl => lv_goto X.1 X.2.1 hd ht (k H locs ls hP hS hl)
theorem D_icmp_geT (X : zY p s m args c cc own nL D cas h0 ne) {a b o : Int} (tgt : Nat) (hg : inR a ∧ inR b) (hq : b ≤ a) (hd : decode cc pc = .ok (.if_icmp .ge o, 3)) (ht : (pc : Int) + o = (tgt : Int)) (k : WD p l e R s m args below meth c D cas h0 nL Q k0 n0 tgt lv st n M) : WD p l e R s m args below meth c D cas h0 nL Q k0 n0 pc lv (.int (zI b) :: .int (zI a) :: st) n M :=
  fun H locs ls hP hS hl => lv_icmp_ge X.1 X.2.1 hd ht (fun _ => k H locs ls hP hS hl) (fun q => absurd ((zI_le ⟨hg.2, hg.1⟩).mpr hq) q)
theorem D_icmp_geF (X : zY p s m args c cc own nL D cas h0 ne) {a b o : Int} (tgt : Nat) (hg : inR a ∧ inR b) (hq : ¬ b ≤ a) (hd : decode cc pc = .ok (.if_icmp .ge o, 3)) (ht : (pc : Int) + o = (tgt : Int)) (k : WD p l e R s m args below meth c D cas h0 nL Q k0 n0 (pc + 3) lv st n M) : WD p l e R s m args below meth c D cas h0 nL Q k0 n0 pc lv (.int (zI b) :: .int (zI a) :: st) n M :=
  fun H locs ls hP hS hl => lv_icmp_ge X.1 X.2.1 hd ht (fun q => absurd ((zI_le ⟨hg.2, hg.1⟩).mp q) hq) (fun _ => k H locs ls hP hS hl)
theorem D_dup (X : zY p s m args c cc own nL D cas h0 ne) {v : Value} (hd : decode cc pc = .ok (.dup, 1)) (hv : v.category = 1) (k : WD p l e R s m args below meth c D cas h0 nL Q k0 n0 (pc + 1) lv (v :: v :: st) n M) : WD p l e R s m args below meth c D cas h0 nL Q k0 n0 pc lv (v :: st) n M :=
  fun H locs ls hP hS hl => lv_dup X.1 X.2.1 hd hv (k H locs ls hP hS hl)
theorem D_obj (X : zY p s m args c cc own nL D cas h0 ne) {ix a : Nat} (hlink : Cond.methodLink own ix objectInit ∈ wsU) (hinst : Cond.instanceMethod objectInit ∈ wsU) (hcode : Cond.code objectInit ⟨#[0xb1]⟩ 1 none ∈ wsU) (hd : decode cc pc = .ok (.invokespecial ix, 3)) (hframes : 1 ≤ R.frames) (hlocals : (st.map fun v => v.category).sum + 12 ≤ R.locals) (k : WD p l e R s m args below meth c D cas h0 nL Q k0 n0 (pc + 3) lv st n M) : WD p l e R s m args below meth c D cas h0 nL Q k0 n0 pc lv (.ref a :: st) n M := by
  obtain ⟨x1, x2, x3, x4, x5, x6, x7, x8, x9⟩ := X
  intro H locs ls hP hS hl
  exact W.objInit x1 x2 x4 (x5 _ hlink) (x5 _ hinst) (x5 _ hcode) rfl (hl.1.trans x3.symm) rfl hd hframes (by show 2 * 0 + _ + 12 ≤ _; omega) (k H locs ls hP hS hl)
theorem D_new (X : zY p s m args c cc own nL D cas h0 ne) {ix ci N : Nat} {C : String} {T : u_T} (ty : Nat → FieldType) (hl0 : lay n = (0, ci)) (hc : vwCl[ci]? = some (C, T, N)) (hn : nfl ci = N) (hin : ∀ w ∈ u_ws C T N, w ∈ wsU) (hty : ∀ k, k < N → parseFieldDescriptor (T k).2.2.1 = some (ty k)) (hdv : ∀ j, j < N → defaultValue (ty j) = if off ci j = 0 then Value.int 0 else Value.null) (hcl : Cond.classLink own ix C ∈ wsU) (hinst : Cond.instantiable C N ∈ wsU) (hini : Cond.initialized C ∈ wsU) (hkn : k0 + ne = n) (hd : decode cc pc = .ok (.new ix, 3)) (hcs : k0 + 1 ≤ R.cells ∧ n0 + N ≤ R.slots) (k : WD p l e R s m args below meth c D cas h0 nL Q (k0 + 1) (n0 + N) (pc + 3) lv (.ref (h0 + n) :: st) (n + 1) (ml M n (fun _ => 0))) : WD p l e R s m args below meth c D cas h0 nL Q k0 n0 pc lv st n M := by
  obtain ⟨x1, x2, x3, x4, x5, x6, x7, x8, x9⟩ := X
  intro H locs ls hP hS hl
  refine zsz x9 hkn hP hS (fun hz => ?_)
  have hKn := x6.1 ci _ hc
  refine W.newcK x1 x2 x4 (x5 _ hcl) (x5 _ hinst) (x5 _ hini) rfl hd hcs.1 hcs.2 hKn.2.1 hz fun H1 kC hkC e1 z1 o1 => ?_
  have hk : ∀ (k : Nat) (x : Nat × va_E), (zL cas h0 n M)[k]? = some x → H1[x.1]? = H[x.1]? := fun k x hx => o1 x.1 (by rw [← hz]; exact (hP k x hx).lt)
  refine k H1 locs ls ?_ ⟨Nat.le_trans hS.1 (by omega), fun x h1 h2 => (o1 x (by rw [← hz]; exact Nat.lt_of_lt_of_le h1 hS.1)).trans (hS.2.1 x h1 h2), hS.2.2⟩ hl
  rw [← zL_push rfl]
  refine (hP.kept hk).app (fun k x hx => ?_)
  have hz2 : k < 1 := (List.getElem?_eq_some_iff.mp hx).1
  rw [show k = 0 by omega] at hx
  cases hx
  rw [zCd_0 hl0]
  refine ⟨_, hc, (u_born ty x5 hin hKn hkC e1 hty).to (fun j hj => ?_)⟩
  rw [hdv j hj]
  have h0j : (List.range (nfl ci))[j]? = some j := List.getElem?_range (by omega)
  show _ = ((List.range (nfl ci)).map _).getD j Value.null
  rw [List.getD_eq_getElem?_getD, List.getElem?_map, h0j]
  simp [← zI_0]
theorem zT_cA {U : State} {t : Nat} {ty : FieldType} {cA : ClassId} (hK : va_K D vwCl (zT cas) U) (ht : (zT cas)[t]? = some (cas t, ty)) (hnp : ∀ C, ty ≠ .object C) (hA : U.vm.findClass ("[" ++ ty.toString) = some cA) : cA = cas t := by
  have h := (hK.2 t _ ht).2
  have h2 : U.vm.findClass ("[" ++ ty.toString) = some (cas t) := by
    unfold va_RA at h
    cases ty with
    | object C => exact absurd rfl (hnp C)
    | _ => exact h
  exact Option.some.inj (hA.symm.trans h2)
theorem D_newa (X : zY p s m args c cc own nL D cas h0 ne) {N t kd : Nat} {atype : ArrayType} {v : Int} (hl0 : lay n = (kd, N)) (hk1 : 1 ≤ kd ∧ kd ≤ 3) (ht : kd = t + 1) (hty : (zT cas)[t]? = some (cas t, newarray.typeOf atype)) (hnp : ∀ C, newarray.typeOf atype ≠ .object C) (hdv : defaultValue (newarray.typeOf atype) = .int 0) (harr : Cond.arrayClass (newarray.typeOf atype) ∈ wsU) (hv : 0 ≤ v ∧ v.toNat = N) (hN : N ≤ 100000) (hcb : componentBytes (newarray.typeOf atype) ≤ 8) (hkn : k0 + ne = n) (hd : decode cc pc = .ok (.newarray atype, 2)) (hcs : k0 + 1 ≤ R.cells ∧ n0 + N ≤ R.slots) (k : WD p l e R s m args below meth c D cas h0 nL Q (k0 + 1) (n0 + N) (pc + 2) lv (.ref (h0 + n) :: st) (n + 1) (ml M n (fun _ => 0))) : WD p l e R s m args below meth c D cas h0 nL Q k0 n0 pc lv (.int (zI v) :: st) n M := by
  obtain ⟨x1, x2, x3, x4, x5, x6, x7, x8, x9⟩ := X
  intro H locs ls hP hS hl
  refine zsz x9 hkn hP hS (fun hz => ?_)
  have hr : inR v := ⟨by omega, by omega⟩
  refine va_newaK x1 x2 (x5 _ harr) rfl hd (n := zI v) (N := N) rfl (by rw [zI_lt0 hr]; omega) (by rw [zI_clamp hr]; exact hv.2) (Nat.le_trans (Nat.mul_le_mul hN hcb) (by omega)) hcs.1 hcs.2 hz fun H1 cA e1 z1 o1 _ hnm => ?_
  have hcA : cA = cas t := zT_cA x6 hty hnp hnm
  have hk : ∀ (k : Nat) (x : Nat × va_E), (zL cas h0 n M)[k]? = some x → H1[x.1]? = H[x.1]? := fun k x hx => o1 x.1 (by rw [← hz]; exact (hP k x hx).lt)
  refine k H1 locs ls ?_ ⟨Nat.le_trans hS.1 (by omega), fun x h1 h2 => (o1 x (by rw [← hz]; exact Nat.lt_of_lt_of_le h1 hS.1)).trans (hS.2.1 x h1 h2), hS.2.2⟩ hl
  rw [← zL_push rfl]
  refine (hP.kept hk).app (fun k x hx => ?_)
  have hz2 : k < 1 := (List.getElem?_eq_some_iff.mp hx).1
  rw [show k = 0 by omega] at hx
  cases hx
  have hcell : zCd cas h0 n (fun _ => 0) = .inl (cas t, N, .inl (fun _ => 0)) := by
    rcases (show kd = 1 ∨ kd = 2 ∨ kd = 3 by omega) with h | h | h <;> subst h <;> (obtain rfl : t = _ := by first | exact (show t = 0 by omega) | exact (show t = 1 by omega) | exact (show t = 2 by omega))
    · rw [zCd_1 hl0]; simp [← zI_0]
    · rw [zCd_2 hl0]; simp [← zI_0]
    · rw [zCd_3 hl0]; simp [← zI_0]
  rw [hcell]
  show H1[h0 + n]? = some (vp_cell _ _)
  rw [e1, hcA, hdv]
  rfl
theorem zFd_get {cas : Nat → ClassId} {ci N j : Nat} {k : Nat} {f : Nat → Int} (hn : nfl ci = N) (hj : j < N) : ((List.range (nfl ci)).map (fun j => if off ci j = 0 then Value.int (zI (f j)) else if f j = 0 then .null else .ref (h0 + (k + off ci j))))[j]? = some (if off ci j = 0 then Value.int (zI (f j)) else if f j = 0 then .null else .ref (h0 + (k + off ci j))) := by
  rw [List.getElem?_map, List.getElem?_range (by omega)]
  rfl
theorem zFd_set {ci N j : Nat} {k : Nat} {f : Nat → Int} {v : Int} (hn : nfl ci = N) (hj : j < N) {w : Value} (hw : w = (if off ci j = 0 then Value.int (zI v) else if v = 0 then .null else .ref (h0 + (k + off ci j)))) : ((List.range (nfl ci)).map (fun j => if off ci j = 0 then Value.int (zI (f j)) else if f j = 0 then .null else .ref (h0 + (k + off ci j)))).set j w = (List.range (nfl ci)).map (fun i => if off ci i = 0 then Value.int (zI (up f j v i)) else if up f j v i = 0 then .null else .ref (h0 + (k + off ci i))) := by
  subst hw
  apply List.ext_getElem?
  intro i
  rw [List.getElem?_set]
  by_cases e : j = i
  · subst e
    rw [if_pos rfl, List.getElem?_map, List.getElem?_range (by omega)]
    simp [up]
    omega
  · rw [if_neg e, List.getElem?_map, List.getElem?_map]
    by_cases hi : i < nfl ci
    · rw [List.getElem?_range hi]
      have e2 : ¬ i = j := fun q => e q.symm
      simp [up, e2]
    · rw [List.getElem?_eq_none (by simp; omega)]
      rfl
theorem D_getR (X : zY p s m args c cc own nL D cas h0 ne) {k ci j ix N : Nat} {C ref : String} {T : u_T} (o kt : Nat) (hk : k < n ∧ lay k = (0, ci)) (hset : M k j ≠ 0) (hc : vwCl[ci]? = some (C, T, N)) (hin : ∀ w ∈ u_ws C T N, w ∈ wsU) (hj : j < N) (hn : nfl ci = N) (hof : off ci j = o) (ho : 0 < o) (hkt : k + o = kt) (href : (T j).1 = ref) (hlink : Cond.fieldLink own ix ref (T j).2.1 (T j).2.2.1 ∈ wsU) (hd : decode cc pc = .ok (.getfield ix, 3)) (kk : WD p l e R s m args below meth c D cas h0 nL Q k0 n0 (pc + 3) lv (.ref (h0 + kt) :: st) n M) : WD p l e R s m args below meth c D cas h0 nL Q k0 n0 pc lv (.ref (h0 + k) :: st) n M := by
  obtain ⟨x1, x2, x3, x4, x5, x6, x7, x8, x9⟩ := X
  subst hkt
  intro H locs ls hP hS hl
  have he := zL_get (cas := cas) (h0 := h0) (M := M) hk.1
  rw [zCd_0 hk.2] at he
  have hv := zFd_get (cas := cas) (h0 := h0) (k := k) (f := M k) hn hj
  have h1 : ¬ off ci j = 0 := by omega
  rw [if_neg h1, if_neg hset, hof] at hv
  exact va_get x1 x2 x5 hin x4 x6 hP k he hc j hj (x5 _ hlink) (fun x h => by rw [← href]; exact h) hv hd (kk H locs ls hP hS hl)
theorem D_put (X : zY p s m args c cc own nL D cas h0 ne) {k ci j ix N : Nat} {C ref : String} {T : u_T} {v : Int} {ty0 : Nat → FieldType} {ty : FieldType} (hk : k < n ∧ lay k = (0, ci)) (hc : vwCl[ci]? = some (C, T, N)) (hin : ∀ w ∈ u_ws C T N, w ∈ wsU) (hty : ∀ k, k < N → parseFieldDescriptor (T k).2.2.1 = some (ty0 k)) (hnm : ∀ a, a < N → ∀ b, b < N → a ≠ b → (T a).2.1 ≠ (T b).2.1) (hj : j < N) (hn : nfl ci = N) (hof : off ci j = 0) (href : (T j).1 = ref) (hlink : Cond.fieldLink own ix ref (T j).2.1 (T j).2.2.1 ∈ wsU) (hfin : (T j).2.2.2 = false) (hde : parseFieldDescriptor (T j).2.2.1 = some ty) (hna : narrow ty (.int (zI v)) = .int (zI v)) (hfit : fits ty (.int (zI v)) = true) (hd : decode cc pc = .ok (.putfield ix, 3)) (kk : WD p l e R s m args below meth c D cas h0 nL Q k0 n0 (pc + 3) lv st n (wr M k j v)) : WD p l e R s m args below meth c D cas h0 nL Q k0 n0 pc lv (.int (zI v) :: .ref (h0 + k) :: st) n M := by
  obtain ⟨x1, x2, x3, x4, x5, x6, x7, x8, x9⟩ := X
  intro H locs ls hP hS hl
  have he := zL_get (cas := cas) (h0 := h0) (M := M) hk.1
  rw [zCd_0 hk.2] at he
  refine va_put x1 x2 x5 hin ty0 hty hnm x4 x6 hP (zL_D _ _ _ _) hS k he hc j hj (x5 _ hlink) (fun x h => by rw [← href]; exact h) hfin hde hna hfit (by simp; omega) hd (fun H1 locs1 hP1 _ hS1 => kk H1 locs1 ls ?_ hS1 hl)
  rw [zFd_set (k := k) (f := M k) (v := v) hn hj (by rw [if_pos hof])] at hP1
  rw [zL_set hk.1 (zCd_0 (cas := cas) (h0 := h0) (f := up (M k) j v) hk.2).symm] at hP1
  exact hP1
theorem D_putR (X : zY p s m args c cc own nL D cas h0 ne) {k kt ci j ix N : Nat} {C ref : String} {T : u_T} {ty0 : Nat → FieldType} {ty : FieldType} (o : Nat) (hk : k < n ∧ lay k = (0, ci)) (hc : vwCl[ci]? = some (C, T, N)) (hin : ∀ w ∈ u_ws C T N, w ∈ wsU) (hty : ∀ k, k < N → parseFieldDescriptor (T k).2.2.1 = some (ty0 k)) (hnm : ∀ a, a < N → ∀ b, b < N → a ≠ b → (T a).2.1 ≠ (T b).2.1) (hj : j < N) (hn : nfl ci = N) (hof : off ci j = o) (ho : 0 < o) (hkt : k + o = kt) (href : (T j).1 = ref) (hlink : Cond.fieldLink own ix ref (T j).2.1 (T j).2.2.1 ∈ wsU) (hfin : (T j).2.2.2 = true) (hin2 : meth.name = "<init>") (hdecl : (T j).1 = own) (hde : parseFieldDescriptor (T j).2.2.1 = some ty) (hna : ∀ a : Addr, narrow ty (.ref a) = .ref a) (hfit : ∀ a : Addr, fits ty (.ref a) = true) (hd : decode cc pc = .ok (.putfield ix, 3)) (kk : WD p l e R s m args below meth c D cas h0 nL Q k0 n0 (pc + 3) lv st n (wr M k j 1)) : WD p l e R s m args below meth c D cas h0 nL Q k0 n0 pc lv (.ref (h0 + kt) :: .ref (h0 + k) :: st) n M := by
  obtain ⟨x1, x2, x3, x4, x5, x6, x7, x8, x9⟩ := X
  subst hkt
  intro H locs ls hP hS hl
  have he := zL_get (cas := cas) (h0 := h0) (M := M) hk.1
  rw [zCd_0 hk.2] at he
  refine va_putF x1 x2 x5 hin ty0 hty hnm x4 x6 hP (zL_D _ _ _ _) hS k he hc j hj (x5 _ hlink) (fun x h => by rw [← href]; exact h) hfin hin2 hdecl hde (hna _) (hfit _) (by simp; omega) hd (fun H1 locs1 hP1 _ hS1 => kk H1 locs1 ls ?_ hS1 hl)
  have h1 : ¬ off ci j = 0 := by omega
  rw [zFd_set (k := k) (f := M k) (v := 1) hn hj (by rw [if_neg h1, if_neg (by decide), hof])] at hP1
  rw [zL_set hk.1 (zCd_0 (cas := cas) (h0 := h0) (f := up (M k) j 1) hk.2).symm] at hP1
  exact hP1
theorem D_iast (X : zY p s m args c cc own nL D cas h0 ne) {k N : Nat} {i v : Int} (j : Nat) (hk : k < n ∧ lay k = (1, N)) (hi : 0 ≤ i ∧ i < (N : Int)) (hN : N ≤ 2147483647) (hj : i.toNat = j) (hd : decode cc pc = .ok (.iastore, 1)) (kk : WD p l e R s m args below meth c D cas h0 nL Q k0 n0 (pc + 1) lv st n (wr M k j v)) : WD p l e R s m args below meth c D cas h0 nL Q k0 n0 pc lv (.int (zI v) :: .int (zI i) :: .ref (h0 + k) :: st) n M := by
  obtain ⟨x1, x2, x3, x4, x5, x6, x7, x8, x9⟩ := X
  subst hj
  intro H locs ls hP hS hl
  have he := zL_get (cas := cas) (h0 := h0) (M := M) hk.1
  rw [zCd_1 hk.2] at he
  refine va_iast x1 x2 x6 hP (zL_D _ _ _ _) hS k 0 he rfl (zI_vp hi hN) hd (fun H1 locs1 hP1 _ hS1 => kk H1 locs1 ls ?_ hS1 hl)
  rw [zI_cl hi hN, z_upd] at hP1
  rw [zL_set hk.1 (zCd_1 (cas := cas) (h0 := h0) (f := up (M k) i.toNat v) hk.2).symm] at hP1
  exact hP1
theorem arrV_ext {cA : ClassId} {N : Nat} {f g : Nat → Value} (h : ∀ j, j < N → f j = g j) : arrV cA N f = arrV cA N g := by
  unfold arrV
  congr 1
  apply Array.ext
  · simp
  · intro i h1 h2
    simp only [Array.getElem_ofFn]
    exact h i (by simpa using h1)
theorem D_anew (X : zY p s m args c cc own nL D cas h0 ne) {ix N : Nat} {v : Int} (hl0 : lay n = (4, N)) (hv : 0 ≤ v ∧ v.toNat = N) (hN : N = 4) (hcl : Cond.classLink own ix "ShardTrails$State" ∈ wsU) (hkn : k0 + ne = n) (hd : decode cc pc = .ok (.anewarray ix, 3)) (hcs : k0 + 1 ≤ R.cells ∧ n0 + N ≤ R.slots) (k : WD p l e R s m args below meth c D cas h0 nL Q (k0 + 1) (n0 + N) (pc + 3) lv (.ref (h0 + n) :: st) (n + 1) (ml M n (fun _ => 0))) : WD p l e R s m args below meth c D cas h0 nL Q k0 n0 pc lv (.int (zI v) :: st) n M := by
  obtain ⟨x1, x2, x3, x4, x5, x6, x7, x8, x9⟩ := X
  intro H locs ls hP hS hl
  refine zsz x9 hkn hP hS (fun hz => ?_)
  have hr : inR v := ⟨by omega, by omega⟩
  refine W.anew (n := zI v) x1 x2 x4 (x5 _ hcl) (va_AO.use x7.2.2.2) rfl hd rfl (by rw [zI_lt0 hr]; omega) (by rw [zI_clamp hr]; omega) hcs.1 (by rw [zI_clamp hr, hv.2]; exact hcs.2) fun cA kA comp f1 f2 f3 f4 => ?_
  rw [zI_clamp hr, hv.2]
  have hcA : cA = cas 3 := by
    obtain ⟨-, kA', comp', g1, g2, g3, g4⟩ := x6.2 3 (cas 3, .object "ShardTrails$State") rfl
    first | exact Option.some.inj (f1.symm.trans g4) | exact Option.some.inj (f4.symm.trans g4) | exact Option.some.inj (f2.symm.trans g4)
  generalize hH1 : H.push ({ cls := cA, slots := Array.replicate N .null, vm := .none } : Cell) = H1
  have z1 : H1.size = H.size + 1 := by rw [← hH1, Array.size_push]
  have e1 : H1[H.size]? = some (arrV cA N (fun _ => .null)) := by rw [← hH1, Array.getElem?_push_size, ← arrV_new]
  have o1 : ∀ q : Nat, q < H.size → H1[q]? = H[q]? := fun q hq => by rw [← hH1, Array.getElem?_push, if_neg (Nat.ne_of_lt hq)]
  have hk : ∀ (k : Nat) (x : Nat × va_E), (zL cas h0 n M)[k]? = some x → H1[x.1]? = H[x.1]? := fun k x hx => o1 x.1 ((hP k x hx).lt)
  have hg : W p l e R s m args below meth c H1 locs (k0 + 1) (n0 + N) Q (F0 m (pc + 3) ls (.ref (h0 + n) :: st)) := by
    refine k H1 locs ls ?_ ⟨Nat.le_trans hS.1 (by omega), fun x h1 h2 => (o1 x (Nat.lt_of_lt_of_le h1 hS.1)).trans (hS.2.1 x h1 h2), hS.2.2⟩ hl
    rw [← zL_push rfl]
    refine (hP.kept hk).app (fun k x hx => ?_)
    have hz2 : k < 1 := (List.getElem?_eq_some_iff.mp hx).1
    rw [show k = 0 by omega] at hx
    cases hx
    rw [zCd_4 hl0]
    show H1[h0 + n]? = some (vp_cell _ _)
    rw [← hz, e1, hcA, vp_cell_q]
    refine congrArg some (arrV_ext (fun j hj => ?_))
    subst hN
    rw [if_pos ⟨hj, rfl⟩]
    rfl
  rw [← hz] at hg
  exact hg
theorem D_aast (X : zY p s m args c cc own nL D cas h0 ne) {k N a : Nat} {i : Int} (j : Nat) (hk : k < n ∧ lay k = (4, N)) (hi : 0 ≤ i ∧ i < (N : Int)) (hN : N = 4) (hj : i.toNat = j) (ha : k + 1 + 29 * j = a) (hka : a < n ∧ lay a = (0, 7)) (hd : decode cc pc = .ok (.aastore, 1)) (kk : WD p l e R s m args below meth c D cas h0 nL Q k0 n0 (pc + 1) lv st n (wr M k j 1)) : WD p l e R s m args below meth c D cas h0 nL Q k0 n0 pc lv (.ref (h0 + a) :: .int (zI i) :: .ref (h0 + k) :: st) n M := by
  obtain ⟨x1, x2, x3, x4, x5, x6, x7, x8, x9⟩ := X
  subst hj
  intro H locs ls hP hS hl
  have he := zL_get (cas := cas) (h0 := h0) (M := M) hk.1
  rw [zCd_4 hk.2] at he
  have hv := zL_get (cas := cas) (h0 := h0) (M := M) hka.1
  rw [zCd_0 hka.2] at hv
  have hs : N ≤ 2147483647 := by omega
  refine va_astq (r := (RX7, TX7, 11)) x1 x2 x6 hP (zL_D _ _ _ _) hS k 3 a 7 he rfl hv rfl (zI_vp hi hs) hd (fun H1 locs1 hP1 _ hS1 => kk H1 locs1 ls ?_ hS1 hl)
  rw [zI_cl hi hs] at hP1
  have h9 : (fun j => if j < 4 ∧ up (M k) i.toNat 1 j = 0 then none else some (h0 + (k + 1 + 29 * j))) = va_up (fun j => if j < 4 ∧ M k j = 0 then none else some (h0 + (k + 1 + 29 * j))) i.toNat (some (h0 + a)) := by
    funext q
    by_cases e : q = i.toNat
    · subst e; simp [va_up, up, ← ha]
    · simp [va_up, up, e]
  rw [← h9] at hP1
  rw [zL_set hk.1 (zCd_4 (cas := cas) (h0 := h0) (f := up (M k) i.toNat 1) hk.2).symm] at hP1
  exact hP1
theorem D_gets (X : zY p s m args c cc own nL D cas h0 ne) {ix N : Nat} {nm : String} {f : Nat → Int} (hZ : zS1 nm N f (fun q => h0 ≤ q) s s.heap) (hlink : (own, ix, nm) ∈ zNestF) (hd : decode cc pc = .ok (.getstatic ix, 3)) (kk : ∀ t : Nat, va_T .int t N (fun j => .int (zI (f j))) (fun q => h0 ≤ q) s s.heap → zSx t N s s.heap → WD p l e R s m args below meth c D cas h0 nL Q k0 n0 (pc + 3) lv (.ref t :: st) n M) : WD p l e R s m args below meth c D cas h0 nL Q k0 n0 pc lv st n M := by
  obtain ⟨x1, x2, x3, x4, x5, x6, x7, x8, x9⟩ := X
  obtain ⟨t, h1, h2, h3⟩ := hZ
  intro H locs ls hP hS hl
  exact va_getsN x1 x2 h1 hS x4 (va_Nw.use rfl (x7.2.1 _ hlink)) (fun _ h => h) hd (kk t h2 h3 H locs ls hP hS hl)
theorem D_clone (X : zY p s m args c cc own nL D cas h0 ne) {ix N t : Nat} {f : Nat → Int} (hT : va_T .int t N (fun j => .int (zI (f j))) (fun q => h0 ≤ q) s s.heap) (hx : zSx t N s s.heap) (hl0 : lay n = (1, N)) (hlink : Cond.methodLink own ix ⟨"[I", "clone", "()Ljava/lang/Object;"⟩ ∈ wsU) (hsame : Cond.sameMethod "[I" "java/lang/Object" "clone" "()Ljava/lang/Object;" ∈ wsU) (hnat : Cond.native ⟨"java/lang/Object", "clone", "()Ljava/lang/Object;"⟩ ∈ wsU) (hinst : Cond.instanceMethod ⟨"java/lang/Object", "clone", "()Ljava/lang/Object;"⟩ ∈ wsU) (hsel : Cond.selects "[I" ⟨"[I", "clone", "()Ljava/lang/Object;"⟩ ⟨"java/lang/Object", "clone", "()Ljava/lang/Object;"⟩ ∈ wsU) (hframes : 1 ≤ R.frames) (hlocals : (st.map fun v => v.category).sum + 14 ≤ R.locals) (hkn : k0 + ne = n) (hd : decode cc pc = .ok (.invokevirtual ix, 3)) (hcs : k0 + 1 ≤ R.cells ∧ n0 + N ≤ R.slots) (kk : WD p l e R s m args below meth c D cas h0 nL Q (k0 + 1) (n0 + N) (pc + 3) lv (.ref (h0 + n) :: st) (n + 1) (ml M n f)) : WD p l e R s m args below meth c D cas h0 nL Q k0 n0 pc lv (.ref t :: st) n M := by
  obtain ⟨x1, x2, x3, x4, x5, x6, x7, x8, x9⟩ := X
  intro H locs ls hP hS hl
  refine zsz x9 hkn hP hS (fun hz => ?_)
  obtain ⟨cell, c1, c2, c3, c4⟩ := hx
  obtain ⟨cell', d1, d2, d3, d4, d5, d6, d7⟩ := hT
  cases c1.symm.trans d1
  obtain ⟨hAr, hRA⟩ := x6.2 0 _ rfl
  have hc0 : cell.cls = cas 0 := by
    have h2 : s.vm.findClass ("[" ++ (FieldType.int).toString) = some (cas 0) := hRA
    exact Option.some.inj (c3.symm.trans h2)
  have hcellE : ({ cls := cell.cls, slots := cell.slots } : Cell) = vp_cell (cas 0) (N, .inl (fun j => zI (f j))) := by
    rw [vp_cell_i, hc0]
    unfold arrV
    congr 1
    apply Array.ext
    · simp [c2]
    · intro i h1 h2
      have h3 := d6 i (by omega)
      rw [Array.getElem?_eq_getElem h1] at h3
      simp only [Array.getElem_ofFn]
      exact Option.some.inj h3
  obtain ⟨c0, t0', f1, f2, f3⟩ := Cond.castable_spec (va_Nw.use (A := args) rfl x7.2.2.1)
  cases c3.symm.trans f1
  intro T hT2 XS
  have hcellT : T.heap[t]? = some cell := by rw [hT2, hS.2.1 t (Array.getElem?_eq_some_iff.mp c1).1 d7]; exact c1
  obtain ⟨-, kA, hkA, comp, hkind⟩ := State.isArrayOf_alike XS.warmed.alike (hAr 0 (fun _ => .null))
  obtain ⟨-, kS, hkS, compS, hkindS⟩ := hAr 0 (fun _ => .null)
  obtain ⟨vm', X', stp⟩ := XS.cloneArray x1 x4 (x5 _ hlink) (x5 _ hsame) (x5 _ hnat) (x5 _ hinst) (x5 _ hsel) (a := t) (cell := cell) hcellT c4 d3 c3 f2 f3
    (fun i v hv => by
      rw [hc0]
      have hk' : T.vm.classes[cas 0]? = some kA := hkA
      have hlt : i < N := by rw [← c2]; exact (Array.getElem?_eq_some_iff.mp hv).1
      have h3 := (d6 i hlt).symm.trans hv
      cases h3
      simp [State.fitsSlot, State.slotType?, hk', hkind, fits])
    (g := F0 m pc ls (.ref t :: st)) rfl (by rw [x3]; exact hl.1) rfl (by rw [x2]; exact hd) hframes (by show 2 * 0 + _ + 14 ≤ _; omega) hcs.1 (by rw [c2]; exact hcs.2) (hloader := by rw [hc0]; exact Vm.clonesLoader_of_array hkS hkindS)
  rw [hcellE, c2] at X'
  generalize hH1 : H.push (vp_cell (cas 0) (N, .inl (fun j => zI (f j)))) = H1
  have z1 : H1.size = H.size + 1 := by rw [← hH1, Array.size_push]
  have e1 : H1[H.size]? = some (vp_cell (cas 0) (N, .inl (fun j => zI (f j)))) := by rw [← hH1, Array.getElem?_push_size]
  have o1 : ∀ q : Nat, q < H.size → H1[q]? = H[q]? := fun q hq => by rw [← hH1, Array.getElem?_push, if_neg (Nat.ne_of_lt hq)]
  have hk : ∀ (k : Nat) (y : Nat × va_E), (zL cas h0 n M)[k]? = some y → H1[y.1]? = H[y.1]? := fun k y hy => o1 y.1 ((hP k y hy).lt)
  have hP1 : va_P D vwCl (zL cas h0 (n + 1) (ml M n f)) H1 := by
    rw [← zL_push rfl]
    refine (hP.kept hk).app (fun k x hx => ?_)
    have hz2 : k < 1 := (List.getElem?_eq_some_iff.mp hx).1
    rw [show k = 0 by omega] at hx
    cases hx
    rw [zCd_1 hl0]
    show H1[h0 + n]? = some (vp_cell _ _)
    rw [← hz]
    exact e1
  obtain ⟨t2, b1, b2⟩ := kk H1 locs ls hP1 ⟨Nat.le_trans hS.1 (by omega), fun x h1 h2 => (o1 x (Nat.lt_of_lt_of_le h1 hS.1)).trans (hS.2.1 x h1 h2), hS.2.2⟩ hl ((T.setVm vm').pushCell (vp_cell (cas 0) (N, .inl (fun j => zI (f j))))) (by rw [← hH1, ← hT2]; rfl) X'
  refine ⟨t2, stp t2 ?_, b2⟩
  rw [hcellE, hT2, hz]
  exact b1
theorem D_castI (X : zY p s m args c cc own nL D cas h0 ne) {ix k N : Nat} (hk : k < n ∧ lay k = (1, N)) (hlink : Cond.classLink own ix "[I" ∈ wsU) (hd : decode cc pc = .ok (.checkcast ix, 3)) (kk : WD p l e R s m args below meth c D cas h0 nL Q k0 n0 (pc + 3) lv (.ref (h0 + k) :: st) n M) : WD p l e R s m args below meth c D cas h0 nL Q k0 n0 pc lv (.ref (h0 + k) :: st) n M := by
  obtain ⟨x1, x2, x3, x4, x5, x6, x7, x8, x9⟩ := X
  intro H locs ls hP hS hl
  have he := zL_get (cas := cas) (h0 := h0) (M := M) hk.1
  rw [zCd_1 hk.2] at he
  have hRA : s.vm.findClass ("[" ++ (FieldType.int).toString) = some (cas 0) := (x6.2 0 _ rfl).2
  exact va_castA x1 x2 x4 (x5 _ hlink) hP k he hRA hd (kk H locs ls hP hS hl)
theorem D_alen (X : zY p s m args c cc own nL D cas h0 ne) {k N : Nat} (hk : k < n ∧ lay k = (1, N)) (hd : decode cc pc = .ok (.arraylength, 1)) (kk : WD p l e R s m args below meth c D cas h0 nL Q k0 n0 (pc + 1) lv (.int (zI (N : Int)) :: st) n M) : WD p l e R s m args below meth c D cas h0 nL Q k0 n0 pc lv (.ref (h0 + k) :: st) n M := by
  obtain ⟨x1, x2, x3, x4, x5, x6, x7, x8, x9⟩ := X
  intro H locs ls hP hS hl
  have he := zL_get (cas := cas) (h0 := h0) (M := M) hk.1
  rw [zCd_1 hk.2] at he
  exact va_alen x1 x2 x6 hP k 0 he rfl (zI_ofNat N) hd (kk H locs ls hP hS hl)
theorem D_icmp_ge (X : zY p s m args c cc own nL D cas h0 ne) {a b o : Int} (tgt : Nat) (hg : inR a ∧ inR b) (hd : decode cc pc = .ok (.if_icmp .ge o, 3)) (ht : (pc : Int) + o = (tgt : Int)) (kt : b ≤ a → WD p l e R s m args below meth c D cas h0 nL Q k0 n0 tgt lv st n M) (kf : ¬ b ≤ a → WD p l e R s m args below meth c D cas h0 nL Q k0 n0 (pc + 3) lv st n M) : WD p l e R s m args below meth c D cas h0 nL Q k0 n0 pc lv (.int (zI b) :: .int (zI a) :: st) n M :=
  fun H locs ls hP hS hl => lv_icmp_ge X.1 X.2.1 hd ht (fun q => kt ((zI_le ⟨hg.2, hg.1⟩).mp q) H locs ls hP hS hl) (fun q => kf (fun z => q ((zI_le ⟨hg.2, hg.1⟩).mpr z)) H locs ls hP hS hl)
theorem D_sub {lv' : List (Nat × Value)} (ks : List Nat) (h : lv_pick lv ks = lv') (kk : WD p l e R s m args below meth c D cas h0 nL Q k0 n0 pc lv' st n M) : WD p l e R s m args below meth c D cas h0 nL Q k0 n0 pc lv st n M :=
  fun H locs ls hP hS hl => kk H locs ls hP hS (lv_sub hl ks h)
end DR
/-! contracts of what makes objects -/
def zGe (D : va_G) (cas : Nat → ClassId) (h0 n : Nat) (M : Mem) (U : State) : Prop :=
  va_P D vwCl (zL cas h0 n M) U.heap ∧ va_K D vwCl (zT cas) U ∧ zNW U ∧ zST (fun q => h0 ≤ q) U U.heap
def zGd (D : va_G) (cas : Nat → ClassId) (h0 n : Nat) (M : Mem) (U : State) : Prop := zGe D cas h0 n M U ∧ U.heap.size = h0 + n
abbrev zro (fr lo mc ms : Nat) : Room := { frames := fr, cells := mc, slots := ms, locals := lo }
abbrev zQd (D : va_G) (cas : Nat → ClassId) (h0 n' : Nat) (M' : Mem) : Array Value → State → Outcome → State → Prop := va_Qv (fun (_ : Unit) => True) (fun _ t => zGe D cas h0 n' M' t) (fun q => h0 ≤ q)
def zKd (l : Launch) (D : va_G) (cas : Nat → ClassId) (h0 : Nat) (y : MethodName) (b : ByteArray) (maxL : Nat) (fr lo mc ms : Nat) (av : List Value) (n : Nat) (M : Mem) (n' : Nat) (M' : Mem) : Prop :=
  Met l y (zws y b maxL none) (zro fr lo mc ms) (va_Pc av (fun U => zGd D cas h0 n M U)) (zQd D cas h0 n' M') mc ms (fun q => h0 ≤ q)
theorem zblindD {D : va_G} {cas : Nat → ClassId} {h0 n : Nat} {M : Mem} {av : List Value} : FrameBlind (va_Pc av (fun U => zGd D cas h0 n M U)) := by
  intro a U g mk ⟨h0, ⟨h1, h2, h3, h4⟩, h5⟩
  exact ⟨h0, ⟨h1, va_K.moved (u := U) (U := U.calling g mk a) (Vm.Alike.refl U.vm) h2, ⟨fun q hq => va_Nw.same rfl rfl (h3.1 q hq), fun q hq => va_Nw.same rfl rfl (h3.2.1 q hq), va_Nw.same rfl rfl h3.2.2.1, va_AO.moved (u := U) (U := U.calling g mk a) (Vm.Alike.refl U.vm) h3.2.2.2⟩, h4.moved (u := U) (U := U.calling g mk a) (Vm.Alike.refl U.vm)⟩, h5⟩
theorem zbodyD {l : Launch} {D : va_G} {cas : Nat → ClassId} {h0 n : Nat} {y : MethodName} {b : ByteArray} {maxL : Nat} {fr lo mc ms : Nat} {av : List Value} {M : Mem} {Qc : Array Value → State → Outcome → State → Prop} (hy : plainName y.cls = true) (hn : (lg_sl av).length ≤ maxL)
    (body : ∀ (p : Program) (e : Env) (s : State) (m : MethodId) (args : Array Value) (below : List Frame) (meth : Method) (c : Code), zY p s m args c b y.cls maxL D cas h0 n → meth.sig.returnType = none → meth.locks = false → meth.name = y.name → WD p l e (zro fr lo mc ms) s m args below meth c D cas h0 maxL (MQ below Qc args s mc ms (fun q => h0 ≤ q)) 0 0 0 (lv_args 0 av) [] n M) :
    Met l y (zws y b maxL none) (zro fr lo mc ms) (va_Pc av (fun U => zGd D cas h0 n M U)) Qc mc ms (fun q => h0 ≤ q) := by
  refine Met.ofW (cc := b) (maxL := maxL) (ret := none) hy rfl ?_
  intro p e s m args below meth c s₁ B hml hv
  obtain ⟨rfl, ⟨hP, hK, hN, hST⟩, hsz⟩ := hv
  have hts := atoms_spec (ws := zws y b maxL none) B.pre
  have hX : zY p s m av.toArray c b y.cls maxL D cas h0 n := ⟨B.exec, B.bytes, hml, findClass_of_methodNamed B.named, fun w h => hts w (List.mem_cons_of_mem _ h), hK, hN, hST, hsz⟩
  have hl := lv_entry av (n := maxL) hn
  rw [lg_entry_eq]
  exact body p e s m av.toArray below meth c hX B.returns B.notSynchronized (name_of_methodNamed B.named B.method).1 s.heap [] _ hP va_S.rf hl
section DE
variable {p : Program} {l : Launch} {e : Env} {R : Room} {s : State} {m : MethodId} {args : Array Value} {below : List Frame} {meth : Method} {c : Code} {D : va_G} {cas : Nat → ClassId} {h0 ne nL k0 n0 : Nat} {Q : State → Prop}
variable {cc : ByteArray} {own : String} {pc n n' : Nat} {lv : List (Nat × Value)} {st rest : List Value} {M M' : Mem}
theorem zendD {H : Heap} {locs : List Loc} (X : zY p s m args c cc own nL D cas h0 ne) (hP : va_P D vwCl (zL cas h0 n M) H) (hS : va_S (fun q => h0 ≤ q) s.heap H locs) {t : State} (ht : t.heap = H) (hW : s.WarmedH t.vm) : zGe D cas h0 n M t := by
  obtain ⟨x1, x2, x3, x4, x5, x6, x7, x8, x9⟩ := X
  refine ⟨by rw [ht]; exact hP, va_K.moved hW.alike x6, x7.warm hW, ?_⟩
  rw [ht]
  exact (x8.moved hW.alike).kept (fun a h1 h2 => hS.2.1 a h1 h2)
theorem D_vret {mc ms : Nat} (X : zY p s m args c cc own nL D cas h0 ne) (hr : meth.sig.returnType = none) (hk : meth.locks = false) (hd : decode cc pc = .ok (.return_, 1)) (hM : M = M') (h1 : k0 = mc) (h2 : n0 = ms) (h3 : n = n') : WD p l e R s m args below meth c D cas h0 nL (MQ below (zQd D cas h0 n' M') args s mc ms (fun q => h0 ≤ q)) k0 n0 pc lv [] n M := by
  subst hM; subst h1; subst h2; subst h3
  intro H locs ls hP hS hl
  exact W.vret X.1 X.2.1 hr (fun t ht hW => ⟨⟨(), rfl, trivial, zendD X hP hS ht hW⟩, hS.F ht⟩) hS.2.2 hd hk
def zyI (y : MethodName) (b : ByteArray) (maxL : Nat) : Prop := Cond.code y b maxL none ∈ wsU ∧ Cond.instanceMethod y ∈ wsU ∧ Cond.initialized y.cls ∈ wsU ∧ y.name = "<init>" ∧ (y.cls ≠ "java/lang/invoke/MethodHandle" ∧ y.cls ≠ "java/lang/invoke/VarHandle" ∧ (parseMethodDescriptor y.desc).map (fun d => d.parameters.length) = some 0)
theorem D_callI (X : zY p s m args c cc own nL D cas h0 ne) {y : MethodName} {b : ByteArray} {maxL fr lo mc ms ix k : Nat} (hM : zKd l D cas h0 y b maxL fr lo mc ms [.ref (h0 + k)] n M n' M') (hy : zyI y b maxL) (hlink : Cond.methodLink own ix y ∈ wsU) (hkn : k0 + ne = n) (hR : fr + 1 ≤ R.frames ∧ 8 + (maxL + 11) + lo ≤ R.locals) (hcs : k0 + mc ≤ R.cells ∧ n0 + ms ≤ R.slots) (hw : (rest.map fun v => v.category).sum ≤ 8) (hd : decode cc pc = .ok (.invokespecial ix, 3)) (kk : WD p l e R s m args below meth c D cas h0 nL Q (k0 + mc) (n0 + ms) (pc + 3) lv rest n' M') : WD p l e R s m args below meth c D cas h0 nL Q k0 n0 pc lv (.ref (h0 + k) :: rest) n M := by
  obtain ⟨g1, g2, g3, g4, g5⟩ := hy
  obtain ⟨x1, x2, x3, x4, x5, x6, x7, x8, x9⟩ := id X
  intro H locs ls hP hS hl
  refine zsz x9 hkn hP hS (fun hz => ?_)
  refine va_callv (va_runI (As := []) (rest := rest) ⟨x1, x2, x3, x4, x5⟩ hM ⟨callB_of 0 x5 (zgood g1) rfl rfl rfl (x5 _ g3) (x5 _ hlink) g5 hR, g4, x5 _ g2⟩ ⟨zblindD, fun U hU hW => ⟨rfl, zendD X hP hS hU hW, by rw [hU]; exact hz⟩⟩ rfl rfl hl.1 rfl (lv_room hw) hd hcs) hS (fun q _ h => h) (fun q h => h) (fun u t H1 locs1 ht _ hp hB _ _ hS1 => ?_)
  exact kk H1 locs1 ls (by rw [← ht]; exact hB.1) hS1 hl
theorem D_callIN (X : zY p s m args c cc own nL D cas h0 ne) {y : MethodName} {b : ByteArray} {maxL fr lo mc ms ix k : Nat} (hM : zKd l D cas h0 y b maxL fr lo mc ms [.ref (h0 + k)] n M n' M') (hy : zyI y b maxL) (hlink : (own, ix, y, "ShardTrails") ∈ zNest) (hkn : k0 + ne = n) (hR : fr + 1 ≤ R.frames ∧ 8 + (maxL + 11) + lo ≤ R.locals) (hcs : k0 + mc ≤ R.cells ∧ n0 + ms ≤ R.slots) (hw : (rest.map fun v => v.category).sum ≤ 8) (hd : decode cc pc = .ok (.invokespecial ix, 3)) (kk : WD p l e R s m args below meth c D cas h0 nL Q (k0 + mc) (n0 + ms) (pc + 3) lv rest n' M') : WD p l e R s m args below meth c D cas h0 nL Q k0 n0 pc lv (.ref (h0 + k) :: rest) n M := by
  obtain ⟨g1, g2, g3, g4, g5⟩ := hy
  obtain ⟨x1, x2, x3, x4, x5, x6, x7, x8, x9⟩ := id X
  intro H locs ls hP hS hl
  refine zsz x9 hkn hP hS (fun hz => ?_)
  refine va_callv (va_runIN (As := []) (rest := rest) ⟨x1, x2, x3, x4, x5⟩ hM ⟨va_cnB 0 x5 (zgood g1) rfl rfl rfl (x7.1 _ hlink) (x5 _ g3) g5 hR, g4, x5 _ g2⟩ ⟨zblindD, fun U hU hW => ⟨rfl, zendD X hP hS hU hW, by rw [hU]; exact hz⟩⟩ rfl rfl hl.1 rfl (lv_room hw) hd hcs) hS (fun q _ h => h) (fun q h => h) (fun u t H1 locs1 ht _ hp hB _ _ hS1 => ?_)
  exact kk H1 locs1 ls (by rw [← ht]; exact hB.1) hS1 hl
theorem D_callS (X : zY p s m args c cc own nL D cas h0 ne) {y : MethodName} {b : ByteArray} {maxL fr lo mc ms ix np : Nat} {av : List Value} (hM : zKd l D cas h0 y b maxL fr lo mc ms av n M n' M') (hy : zyS y b maxL np none) (hlink : Cond.methodLink own ix y ∈ wsU) (hst : st = av.reverse ++ rest) (hn : av.length = np) (hkn : k0 + ne = n) (hR : fr + 1 ≤ R.frames ∧ 8 + (maxL + 11) + lo ≤ R.locals) (hcs : k0 + mc ≤ R.cells ∧ n0 + ms ≤ R.slots) (hw : (rest.map fun v => v.category).sum ≤ 8) (hd : decode cc pc = .ok (.invokestatic ix, 3)) (kk : WD p l e R s m args below meth c D cas h0 nL Q (k0 + mc) (n0 + ms) (pc + 3) lv rest n' M') : WD p l e R s m args below meth c D cas h0 nL Q k0 n0 pc lv st n M := by
  subst hst
  obtain ⟨g1, g2, g4, g5⟩ := hy
  obtain ⟨x1, x2, x3, x4, x5, x6, x7, x8, x9⟩ := id X
  intro H locs ls hP hS hl
  refine zsz x9 hkn hP hS (fun hz => ?_)
  refine va_callv (va_runS (As := av) (rest := rest) ⟨x1, x2, x3, x4, x5⟩ hM ⟨callB_of np x5 (zgood g1) rfl rfl rfl (x5 _ g4) (x5 _ hlink) g5 hR, x5 _ g2⟩ ⟨zblindD, fun U hU hW => ⟨rfl, zendD X hP hS hU hW, by rw [hU]; exact hz⟩⟩ rfl hn hl.1 rfl (lv_room hw) hd hcs) hS (fun q _ h => h) (fun q h => h) (fun u t H1 locs1 ht _ hp hB _ _ hS1 => ?_)
  exact kk H1 locs1 ls (by rw [← ht]; exact hB.1) hS1 hl
end DE
end
section
theorem wm_X9_3 : Cond.methodLink "ShardTrails" 3 objectInit ∈ wsU := wsU_c1 20 rfl rfl
theorem zo_i : Cond.instanceMethod objectInit ∈ wsU := wsU_c1 21 rfl rfl
theorem zo_c : Cond.code objectInit ⟨#[0xb1]⟩ 1 none ∈ wsU := wsU_c1 22 rfl rfl
theorem wc_X9_9 : Cond.classLink "ShardTrails" 9 "ShardTrails$State" ∈ wsU := wsU_c1 23 rfl rfl
theorem wi_7 : Cond.instantiable "ShardTrails$State" 11 ∈ wsU := wsU_c1 24 rfl rfl
theorem wz_7 : Cond.initialized "ShardTrails$State" ∈ wsU := wsU_c1 2 rfl rfl
theorem dv_7 : ∀ j, j < 11 → defaultValue (tyX7 j) = if off 7 j = 0 then Value.int 0 else Value.null := by decide +kernel
theorem wm_X7_3 : Cond.methodLink "ShardTrails$State" 3 objectInit ∈ wsU := wsU_c1 28 rfl rfl
theorem wm_X7_13 : Cond.methodLink "ShardTrails$State" 13 ⟨"[I", "clone", "()Ljava/lang/Object;"⟩ ∈ wsU := wsU_c1 31 rfl rfl
theorem wk_1 : Cond.sameMethod "[I" "java/lang/Object" "clone" "()Ljava/lang/Object;" ∈ wsU := wsU_c1 32 rfl rfl
theorem wk_2 : Cond.native ⟨"java/lang/Object", "clone", "()Ljava/lang/Object;"⟩ ∈ wsU := wsU_c1 33 rfl rfl
theorem wk_3 : Cond.instanceMethod ⟨"java/lang/Object", "clone", "()Ljava/lang/Object;"⟩ ∈ wsU := wsU_c1 34 rfl rfl
theorem wk_4 : Cond.selects "[I" ⟨"[I", "clone", "()Ljava/lang/Object;"⟩ ⟨"java/lang/Object", "clone", "()Ljava/lang/Object;"⟩ ∈ wsU := wsU_c1 35 rfl rfl
theorem wc_X7_14 : Cond.classLink "ShardTrails$State" 14 "[I" ∈ wsU := wsU_c1 37 rfl rfl
theorem wc_X7_29 : Cond.classLink "ShardTrails$State" 29 "ShardTrails$Land" ∈ wsU := wsU_c1 40 rfl rfl
theorem wi_2 : Cond.instantiable "ShardTrails$Land" 7 ∈ wsU := wsU_c1 41 rfl rfl
theorem wz_2 : Cond.initialized "ShardTrails$Land" ∈ wsU := wsU_c1 3 rfl rfl
theorem dv_2 : ∀ j, j < 7 → defaultValue (tyX2 j) = if off 2 j = 0 then Value.int 0 else Value.null := by decide +kernel
theorem wm_X2_3 : Cond.methodLink "ShardTrails$Land" 3 objectInit ∈ wsU := wsU_c1 45 rfl rfl
theorem wa_int : Cond.arrayClass .int ∈ wsU := wsU_c1 86 rfl rfl
theorem wa_boolean : Cond.arrayClass .boolean ∈ wsU := wsU_c1 87 rfl rfl
theorem zy_fill : zyS yJ7_fill_53178 cJ7_fill_53178 4 2 none := ⟨wsU_c1 48 rfl rfl, wsU_c1 47 rfl rfl, wsU_c1 4 rfl rfl, by decide +kernel⟩
theorem wm_X2_31 : Cond.methodLink "ShardTrails$Land" 31 yJ7_fill_53178 ∈ wsU := wsU_c1 46 rfl rfl
theorem zyi_X2_init : zyI yX2_init cX2_init 1 := ⟨wsU_c1 44 rfl rfl, wsU_c1 43 rfl rfl, wsU_c1 3 rfl rfl, rfl, by decide +kernel⟩
theorem wm_X7_31 : Cond.methodLink "ShardTrails$State" 31 yX2_init ∈ wsU := wsU_c1 42 rfl rfl
theorem wc_X7_36 : Cond.classLink "ShardTrails$State" 36 "ShardTrails$Tracks" ∈ wsU := wsU_c1 88 rfl rfl
theorem wi_8 : Cond.instantiable "ShardTrails$Tracks" 2 ∈ wsU := wsU_c1 89 rfl rfl
theorem wz_8 : Cond.initialized "ShardTrails$Tracks" ∈ wsU := wsU_c1 5 rfl rfl
theorem dv_8 : ∀ j, j < 2 → defaultValue (tyX8 j) = if off 8 j = 0 then Value.int 0 else Value.null := by decide +kernel
theorem wm_X8_3 : Cond.methodLink "ShardTrails$Tracks" 3 objectInit ∈ wsU := wsU_c1 93 rfl rfl
theorem wm_X8_18 : Cond.methodLink "ShardTrails$Tracks" 18 yJ7_fill_53178 ∈ wsU := wsU_c1 94 rfl rfl
theorem zyi_X8_init : zyI yX8_init cX8_init 1 := ⟨wsU_c1 92 rfl rfl, wsU_c1 91 rfl rfl, wsU_c1 5 rfl rfl, rfl, by decide +kernel⟩
theorem wm_X7_38 : Cond.methodLink "ShardTrails$State" 38 yX8_init ∈ wsU := wsU_c1 90 rfl rfl
theorem wc_X7_43 : Cond.classLink "ShardTrails$State" 43 "ShardTrails$Herd" ∈ wsU := wsU_c1 105 rfl rfl
theorem wi_0 : Cond.instantiable "ShardTrails$Herd" 4 ∈ wsU := wsU_c1 106 rfl rfl
theorem wz_0 : Cond.initialized "ShardTrails$Herd" ∈ wsU := wsU_c1 6 rfl rfl
theorem dv_0 : ∀ j, j < 4 → defaultValue (tyX0 j) = if off 0 j = 0 then Value.int 0 else Value.null := by decide +kernel
theorem wm_X0_3 : Cond.methodLink "ShardTrails$Herd" 3 objectInit ∈ wsU := wsU_c1 110 rfl rfl
theorem zyi_X0_init : zyI yX0_init cX0_init 1 := ⟨wsU_c1 109 rfl rfl, wsU_c1 108 rfl rfl, wsU_c1 6 rfl rfl, rfl, by decide +kernel⟩
theorem wn_X7_45 : ("ShardTrails$State", 45, yX0_init, "ShardTrails") ∈ zNest := List.mem_of_getElem? (i := 1) (by decide +kernel)
theorem wc_X7_50 : Cond.classLink "ShardTrails$State" 50 "ShardTrails$Pack" ∈ wsU := wsU_c1 131 rfl rfl
theorem wi_3 : Cond.instantiable "ShardTrails$Pack" 3 ∈ wsU := wsU_c1 132 rfl rfl
theorem wz_3 : Cond.initialized "ShardTrails$Pack" ∈ wsU := wsU_c1 7 rfl rfl
theorem dv_3 : ∀ j, j < 3 → defaultValue (tyX3 j) = if off 3 j = 0 then Value.int 0 else Value.null := by decide +kernel
theorem wm_X3_3 : Cond.methodLink "ShardTrails$Pack" 3 objectInit ∈ wsU := wsU_c1 136 rfl rfl
theorem zyi_X3_init : zyI yX3_init cX3_init 1 := ⟨wsU_c1 135 rfl rfl, wsU_c1 134 rfl rfl, wsU_c1 7 rfl rfl, rfl, by decide +kernel⟩
theorem wn_X7_52 : ("ShardTrails$State", 52, yX3_init, "ShardTrails") ∈ zNest := List.mem_of_getElem? (i := 2) (by decide +kernel)
theorem wc_X7_57 : Cond.classLink "ShardTrails$State" 57 "ShardTrails$Readers" ∈ wsU := wsU_c1 150 rfl rfl
theorem wi_4 : Cond.instantiable "ShardTrails$Readers" 7 ∈ wsU := wsU_c1 151 rfl rfl
theorem wz_4 : Cond.initialized "ShardTrails$Readers" ∈ wsU := wsU_c1 8 rfl rfl
theorem dv_4 : ∀ j, j < 7 → defaultValue (tyX4 j) = if off 4 j = 0 then Value.int 0 else Value.null := by decide +kernel
theorem wm_X4_3 : Cond.methodLink "ShardTrails$Readers" 3 objectInit ∈ wsU := wsU_c1 155 rfl rfl
theorem zyi_X4_init : zyI yX4_init cX4_init 1 := ⟨wsU_c1 154 rfl rfl, wsU_c1 153 rfl rfl, wsU_c1 8 rfl rfl, rfl, by decide +kernel⟩
theorem wn_X7_59 : ("ShardTrails$State", 59, yX4_init, "ShardTrails") ∈ zNest := List.mem_of_getElem? (i := 3) (by decide +kernel)
theorem zyi_X7_init : zyI yX7_init cX7_init 1 := ⟨wsU_c1 27 rfl rfl, wsU_c1 26 rfl rfl, wsU_c1 2 rfl rfl, rfl, by decide +kernel⟩
theorem wn_X9_11 : ("ShardTrails", 11, yX7_init, "ShardTrails") ∈ zNest := List.mem_of_getElem? (i := 0) (by decide +kernel)
theorem wc_X9_22 : Cond.classLink "ShardTrails" 22 "ShardTrails$History" ∈ wsU := wsU_c1 234 rfl rfl
theorem wi_1 : Cond.instantiable "ShardTrails$History" 3 ∈ wsU := wsU_c1 235 rfl rfl
theorem wz_1 : Cond.initialized "ShardTrails$History" ∈ wsU := wsU_c1 9 rfl rfl
theorem dv_1 : ∀ j, j < 3 → defaultValue (tyX1 j) = if off 1 j = 0 then Value.int 0 else Value.null := by decide +kernel
theorem wm_X1_3 : Cond.methodLink "ShardTrails$History" 3 objectInit ∈ wsU := wsU_c1 239 rfl rfl
theorem wc_X1_9 : Cond.classLink "ShardTrails$History" 9 "ShardTrails$State" ∈ wsU := wsU_c2 0 rfl rfl
theorem wn_X1_17 : ("ShardTrails$History", 17, yX7_init, "ShardTrails") ∈ zNest := List.mem_of_getElem? (i := 4) (by decide +kernel)
theorem zyi_X1_init : zyI yX1_init cX1_init 2 := ⟨wsU_c1 238 rfl rfl, wsU_c1 237 rfl rfl, wsU_c1 9 rfl rfl, rfl, by decide +kernel⟩
theorem wm_X9_24 : Cond.methodLink "ShardTrails" 24 yX1_init ∈ wsU := wsU_c1 236 rfl rfl
theorem wc_X9_29 : Cond.classLink "ShardTrails" 29 "ShardTrails$Route" ∈ wsU := wsU_c2 14 rfl rfl
theorem wi_6 : Cond.instantiable "ShardTrails$Route" 9 ∈ wsU := wsU_c2 15 rfl rfl
theorem wz_6 : Cond.initialized "ShardTrails$Route" ∈ wsU := wsU_c1 10 rfl rfl
theorem dv_6 : ∀ j, j < 9 → defaultValue (tyX6 j) = if off 6 j = 0 then Value.int 0 else Value.null := by decide +kernel
theorem wm_X6_3 : Cond.methodLink "ShardTrails$Route" 3 objectInit ∈ wsU := wsU_c2 19 rfl rfl
theorem zyi_X6_init : zyI yX6_init cX6_init 1 := ⟨wsU_c2 18 rfl rfl, wsU_c2 17 rfl rfl, wsU_c1 10 rfl rfl, rfl, by decide +kernel⟩
theorem wn_X9_31 : ("ShardTrails", 31, yX6_init, "ShardTrails") ∈ zNest := List.mem_of_getElem? (i := 5) (by decide +kernel)
theorem wc_X9_36 : Cond.classLink "ShardTrails" 36 "ShardTrails$RequestText" ∈ wsU := wsU_c2 58 rfl rfl
theorem wi_5 : Cond.instantiable "ShardTrails$RequestText" 7 ∈ wsU := wsU_c2 59 rfl rfl
theorem wz_5 : Cond.initialized "ShardTrails$RequestText" ∈ wsU := wsU_c1 11 rfl rfl
theorem dv_5 : ∀ j, j < 7 → defaultValue (tyX5 j) = if off 5 j = 0 then Value.int 0 else Value.null := by decide +kernel
theorem wm_X5_3 : Cond.methodLink "ShardTrails$RequestText" 3 objectInit ∈ wsU := wsU_c2 63 rfl rfl
theorem wa_char : Cond.arrayClass .char ∈ wsU := wsU_c2 91 rfl rfl
theorem zyi_X5_init : zyI yX5_init cX5_init 1 := ⟨wsU_c2 62 rfl rfl, wsU_c2 61 rfl rfl, wsU_c1 11 rfl rfl, rfl, by decide +kernel⟩
theorem wn_X9_38 : ("ShardTrails", 38, yX5_init, "ShardTrails") ∈ zNest := List.mem_of_getElem? (i := 6) (by decide +kernel)
theorem wm_X10_1 : Cond.methodLink "ShardTrailsModel" 1 objectInit ∈ wsU := wsU_c4 63 rfl rfl
theorem dJ7_fill_53178_0 : decode cJ7_fill_53178 0 = .ok (.iconst 0, 1) := by decide +kernel
theorem dJ7_fill_53178_1 : decode cJ7_fill_53178 1 = .ok (.istore_n 2, 1) := by decide +kernel
theorem dJ7_fill_53178_2 : decode cJ7_fill_53178 2 = .ok (.aload_n 0, 1) := by decide +kernel
theorem dJ7_fill_53178_3 : decode cJ7_fill_53178 3 = .ok (.arraylength, 1) := by decide +kernel
theorem dJ7_fill_53178_4 : decode cJ7_fill_53178 4 = .ok (.istore_n 3, 1) := by decide +kernel
theorem dJ7_fill_53178_5 : decode cJ7_fill_53178 5 = .ok (.iload_n 2, 1) := by decide +kernel
theorem dJ7_fill_53178_6 : decode cJ7_fill_53178 6 = .ok (.iload_n 3, 1) := by decide +kernel
theorem dJ7_fill_53178_7 : decode cJ7_fill_53178 7 = .ok (.if_icmp .ge 13, 3) := by decide +kernel
theorem dJ7_fill_53178_10 : decode cJ7_fill_53178 10 = .ok (.aload_n 0, 1) := by decide +kernel
theorem dJ7_fill_53178_11 : decode cJ7_fill_53178 11 = .ok (.iload_n 2, 1) := by decide +kernel
theorem dJ7_fill_53178_12 : decode cJ7_fill_53178 12 = .ok (.iload_n 1, 1) := by decide +kernel
theorem dJ7_fill_53178_13 : decode cJ7_fill_53178 13 = .ok (.iastore, 1) := by decide +kernel
theorem dJ7_fill_53178_14 : decode cJ7_fill_53178 14 = .ok (.iinc 2 1, 3) := by decide +kernel
theorem dJ7_fill_53178_17 : decode cJ7_fill_53178 17 = .ok (.goto (-12), 3) := by decide +kernel
theorem dJ7_fill_53178_20 : decode cJ7_fill_53178 20 = .ok (.return_, 1) := by decide +kernel
set_option maxRecDepth 100000 in
set_option maxHeartbeats 4000000 in
theorem cd_fill (l : Launch) (D : va_G) (cas : Nat → ClassId) (h0 : Nat) {n k N : Nat} {v : Int} (hk : k < n ∧ lay k = (1, N)) (hN : N ≤ 6097) (M : Mem) : zKd l D cas h0 yJ7_fill_53178 cJ7_fill_53178 4 0 0 0 0 [.ref (h0 + k), .int (zI v)] n M n (flM M k N v) := by
  refine zbodyD (by decide) (Nat.le_of_ble_eq_true rfl) ?_
  intro p e s m args below meth c X hr hk0 hnm
  have X : zY p s m args c cJ7_fill_53178 "java/util/Arrays" 4 D cas h0 n := X
  have hB : ∀ (d i : Nat) (M1 : Mem), d + i = N → (∀ j, j < i → M1 k j = v) → (∀ j, ¬ j < i → M1 k j = M k j) → (∀ a, a ≠ k → M1 a = M a) → WD p l e (zro 0 0 0 0) s m args below meth c D cas h0 4 (MQ below (zQd D cas h0 n (flM M k N v)) args s 0 0 (fun q => h0 ≤ q)) 0 0 5 [(0, .ref (h0 + k)), (1, .int (zI v)), (2, .int (zI i)), (3, .int (zI (N : Int)))] [] n M1 := by
    intro d
    induction d with
    | zero =>
      intro i M1 hd h1 h2 h3
      have hi : i = N := by omega
      subst hi
      refine D_iload_n X 2 dJ7_fill_53178_5 rfl rfl ?_
      refine D_iload_n X 3 dJ7_fill_53178_6 rfl rfl ?_
      refine D_icmp_geT X 20 ⟨⟨by omega, by omega⟩, ⟨by omega, by omega⟩⟩ (Int.le_refl _) dJ7_fill_53178_7 (by decide) ?_
      refine D_vret X hr hk0 dJ7_fill_53178_20 ?_ rfl rfl rfl
      funext a
      by_cases e : a = k
      · subst e
        funext j
        have hw : flM M a i v a j = if j < i then v else M a j := by simp [flM, ml]
        rw [hw]
        by_cases hj : j < i
        · rw [if_pos hj]; exact h1 j hj
        · rw [if_neg hj]; exact h2 j hj
      · have hw : flM M k i v a = M a := by simp [flM, ml, e]
        rw [hw]; exact h3 a e
    | succ d ih =>
      intro i M1 hd h1 h2 h3
      refine D_iload_n X 2 dJ7_fill_53178_5 rfl rfl ?_
      refine D_iload_n X 3 dJ7_fill_53178_6 rfl rfl ?_
      refine D_icmp_geF X 20 ⟨⟨by omega, by omega⟩, ⟨by omega, by omega⟩⟩ (by omega) dJ7_fill_53178_7 (by decide) ?_
      refine D_aload_n X 0 dJ7_fill_53178_10 rfl rfl ?_
      refine D_iload_n X 2 dJ7_fill_53178_11 rfl rfl ?_
      refine D_iload_n X 1 dJ7_fill_53178_12 rfl rfl ?_
      refine D_iast X (k := k) i hk ⟨by omega, by omega⟩ (by omega) (Int.toNat_natCast i) dJ7_fill_53178_13 ?_
      refine D_iinc X (lv' := [(2, .int (zI ((i + 1 : Nat) : Int))), (0, .ref (h0 + k)), (1, .int (zI v)), (3, .int (zI (N : Int)))]) 2 dJ7_fill_53178_14 rfl (by omega) (by decide) rfl ?_
      refine D_goto X 5 dJ7_fill_53178_17 (by decide) ?_
      refine D_sub [1, 2, 0, 3] rfl (ih (i + 1) (wr M1 k i v) (by omega) (fun j hj => ?_) (fun j hj => ?_) (fun a ha => ?_))
      · have hw : wr M1 k i v k j = if j = i then v else M1 k j := by simp [wr, up]
        rw [hw]
        by_cases e : j = i
        · rw [if_pos e]
        · rw [if_neg e]; exact h1 j (by omega)
      · have hw : wr M1 k i v k j = if j = i then v else M1 k j := by simp [wr, up]
        rw [hw, if_neg (by omega)]
        exact h2 j (by omega)
      · have hw : wr M1 k i v a = M1 a := by simp [wr, ha]
        rw [hw]; exact h3 a ha
  refine (?_ : WD p l e (zro 0 0 0 0) s m args below meth c D cas h0 4 (MQ below (zQd D cas h0 n (flM M k N v)) args s 0 0 (fun q => h0 ≤ q)) 0 0 0 [(0, .ref (h0 + k)), (1, .int (zI v))] [] n M)
  refine D_iconst X dJ7_fill_53178_0 ?_
  refine D_istore_n X (lv' := [(2, .int (zI 0)), (0, .ref (h0 + k)), (1, .int (zI v))]) dJ7_fill_53178_1 rfl (by decide) rfl ?_
  refine D_aload_n X 1 dJ7_fill_53178_2 rfl rfl ?_
  refine D_alen X hk dJ7_fill_53178_3 ?_
  refine D_istore_n X (lv' := [(3, .int (zI (N : Int))), (2, .int (zI 0)), (0, .ref (h0 + k)), (1, .int (zI v))]) dJ7_fill_53178_4 rfl (by decide) rfl ?_
  exact D_sub [2, 3, 1, 0] rfl (hB N 0 M (by omega) (fun j hj => absurd hj (by omega)) (fun _ _ => rfl) (fun _ _ => rfl))
theorem dX2_init_0 : decode cX2_init 0 = .ok (.aload_n 0, 1) := by decide +kernel
theorem dX2_init_1 : decode cX2_init 1 = .ok (.invokespecial 3, 3) := by decide +kernel
theorem dX2_init_4 : decode cX2_init 4 = .ok (.aload_n 0, 1) := by decide +kernel
theorem dX2_init_5 : decode cX2_init 5 = .ok (.bipush 8, 2) := by decide +kernel
theorem dX2_init_7 : decode cX2_init 7 = .ok (.newarray .int, 2) := by decide +kernel
theorem dX2_init_9 : decode cX2_init 9 = .ok (.putfield 9, 3) := by decide +kernel
theorem dX2_init_12 : decode cX2_init 12 = .ok (.aload_n 0, 1) := by decide +kernel
theorem dX2_init_13 : decode cX2_init 13 = .ok (.bipush 8, 2) := by decide +kernel
theorem dX2_init_15 : decode cX2_init 15 = .ok (.newarray .int, 2) := by decide +kernel
theorem dX2_init_17 : decode cX2_init 17 = .ok (.putfield 15, 3) := by decide +kernel
theorem dX2_init_20 : decode cX2_init 20 = .ok (.aload_n 0, 1) := by decide +kernel
theorem dX2_init_21 : decode cX2_init 21 = .ok (.bipush 8, 2) := by decide +kernel
theorem dX2_init_23 : decode cX2_init 23 = .ok (.newarray .int, 2) := by decide +kernel
theorem dX2_init_25 : decode cX2_init 25 = .ok (.putfield 18, 3) := by decide +kernel
theorem dX2_init_28 : decode cX2_init 28 = .ok (.aload_n 0, 1) := by decide +kernel
theorem dX2_init_29 : decode cX2_init 29 = .ok (.bipush 8, 2) := by decide +kernel
theorem dX2_init_31 : decode cX2_init 31 = .ok (.newarray .int, 2) := by decide +kernel
theorem dX2_init_33 : decode cX2_init 33 = .ok (.putfield 21, 3) := by decide +kernel
theorem dX2_init_36 : decode cX2_init 36 = .ok (.aload_n 0, 1) := by decide +kernel
theorem dX2_init_37 : decode cX2_init 37 = .ok (.bipush 8, 2) := by decide +kernel
theorem dX2_init_39 : decode cX2_init 39 = .ok (.newarray .boolean, 2) := by decide +kernel
theorem dX2_init_41 : decode cX2_init 41 = .ok (.putfield 24, 3) := by decide +kernel
theorem dX2_init_44 : decode cX2_init 44 = .ok (.aload_n 0, 1) := by decide +kernel
theorem dX2_init_45 : decode cX2_init 45 = .ok (.sipush 128, 3) := by decide +kernel
theorem dX2_init_48 : decode cX2_init 48 = .ok (.newarray .int, 2) := by decide +kernel
theorem dX2_init_50 : decode cX2_init 50 = .ok (.putfield 28, 3) := by decide +kernel
theorem dX2_init_53 : decode cX2_init 53 = .ok (.aload_n 0, 1) := by decide +kernel
theorem dX2_init_54 : decode cX2_init 54 = .ok (.getfield 28, 3) := by decide +kernel
theorem dX2_init_57 : decode cX2_init 57 = .ok (.bipush (-5), 2) := by decide +kernel
theorem dX2_init_59 : decode cX2_init 59 = .ok (.invokestatic 31, 3) := by decide +kernel
theorem dX2_init_62 : decode cX2_init 62 = .ok (.aload_n 0, 1) := by decide +kernel
theorem dX2_init_63 : decode cX2_init 63 = .ok (.iconst 1, 1) := by decide +kernel
theorem dX2_init_64 : decode cX2_init 64 = .ok (.putfield 37, 3) := by decide +kernel
theorem dX2_init_67 : decode cX2_init 67 = .ok (.aload_n 0, 1) := by decide +kernel
theorem dX2_init_68 : decode cX2_init 68 = .ok (.getfield 15, 3) := by decide +kernel
theorem dX2_init_71 : decode cX2_init 71 = .ok (.iconst 0, 1) := by decide +kernel
theorem dX2_init_72 : decode cX2_init 72 = .ok (.bipush 16, 2) := by decide +kernel
theorem dX2_init_74 : decode cX2_init 74 = .ok (.iastore, 1) := by decide +kernel
theorem dX2_init_75 : decode cX2_init 75 = .ok (.aload_n 0, 1) := by decide +kernel
theorem dX2_init_76 : decode cX2_init 76 = .ok (.getfield 18, 3) := by decide +kernel
theorem dX2_init_79 : decode cX2_init 79 = .ok (.iconst 0, 1) := by decide +kernel
theorem dX2_init_80 : decode cX2_init 80 = .ok (.bipush 16, 2) := by decide +kernel
theorem dX2_init_82 : decode cX2_init 82 = .ok (.iastore, 1) := by decide +kernel
theorem dX2_init_83 : decode cX2_init 83 = .ok (.return_, 1) := by decide +kernel
def lx_2 : List (Nat × Nat) := [(0, 2), (1, 8), (1, 8), (1, 8), (1, 8), (2, 8), (1, 128)]
def g_X2_init (k : Nat) (M : Mem) : Mem :=
  (wr (wr (wr (flM (wr (ml (wr (ml (wr (ml (wr (ml (wr (ml (wr (ml M (k + 1) fun _ => 0) k 1 1) (k + 2) fun _ => 0) k 2 1) (k + 3) fun _ => 0) k 3 1) (k + 4) fun _ => 0) k 4 1) (k + 5) fun _ => 0) k 5 1) (k + 6) fun _ => 0) k 6 1) (k + 6) 128 (-5)) k 0 1) (k + 2) 0 16) (k + 3) 0 16)
set_option maxRecDepth 100000 in
set_option maxHeartbeats 4000000 in
theorem cd_X2_init (l : Launch) (D : va_G) (cas : Nat → ClassId) (h0 k : Nat) (hL : ∀ j, j < 7 → lay (k + j) = lx_2.getD j (9, 0)) (M : Mem) : zKd l D cas h0 yX2_init cX2_init 1 1 23 6 168 [.ref (h0 + k)] (k + 1) M (k + 7) (g_X2_init k M) := by
  refine zbodyD (by decide) (Nat.le_of_ble_eq_true rfl) ?_
  intro p e s m args below meth c X hr hk0 hnm
  have hnm : meth.name = "<init>" := hnm
  have X : zY p s m args c cX2_init "ShardTrails$Land" 1 D cas h0 (k + 1) := X
  refine (?_ : WD p l e (zro 1 23 6 168) s m args below meth c D cas h0 1 (MQ below (zQd D cas h0 (k + 7) (g_X2_init k M)) args s 6 168 (fun q => h0 ≤ q)) 0 0 0 [(0, .ref (h0 + k))] [] (k + 1) M)
  refine D_aload_n X 0 dX2_init_0 rfl rfl ?_
  refine D_obj X wm_X2_3 zo_i zo_c dX2_init_1 (by decide) (Nat.le_of_ble_eq_true rfl) ?_
  refine D_aload_n X 0 dX2_init_4 rfl rfl ?_
  refine D_bipush X dX2_init_5 (by decide +kernel) ?_
  refine D_newa X (atype := .int) (t := 0) (show lay (k + 1) = (1, 8) from hL 1 (by decide)) (by decide) rfl rfl (fun C h => by cases h) rfl wa_int ⟨by decide, by decide⟩ (by decide) (by decide) (by omega) dX2_init_7 ⟨Nat.le_of_ble_eq_true rfl, Nat.le_of_ble_eq_true rfl⟩ ?_
  refine D_putR X (ty := (.array .int)) (k := k) (j := 1) 1 ⟨by omega, (show lay (k) = (0, 2) from hL 0 (by decide))⟩ rfl inX2 tyX2_ok nmX2 (by decide) rfl rfl (by decide) rfl rfl wf_X2_9 rfl hnm rfl (by decide +kernel) (fun _ => rfl) (fun _ => rfl) dX2_init_9 ?_
  refine D_aload_n X 0 dX2_init_12 rfl rfl ?_
  refine D_bipush X dX2_init_13 (by decide +kernel) ?_
  refine D_newa X (atype := .int) (t := 0) (show lay (k + 2) = (1, 8) from hL 2 (by decide)) (by decide) rfl rfl (fun C h => by cases h) rfl wa_int ⟨by decide, by decide⟩ (by decide) (by decide) (by omega) dX2_init_15 ⟨Nat.le_of_ble_eq_true rfl, Nat.le_of_ble_eq_true rfl⟩ ?_
  refine D_putR X (ty := (.array .int)) (k := k) (j := 2) 2 ⟨by omega, (show lay (k) = (0, 2) from hL 0 (by decide))⟩ rfl inX2 tyX2_ok nmX2 (by decide) rfl rfl (by decide) rfl rfl wf_X2_15 rfl hnm rfl (by decide +kernel) (fun _ => rfl) (fun _ => rfl) dX2_init_17 ?_
  refine D_aload_n X 0 dX2_init_20 rfl rfl ?_
  refine D_bipush X dX2_init_21 (by decide +kernel) ?_
  refine D_newa X (atype := .int) (t := 0) (show lay (k + 3) = (1, 8) from hL 3 (by decide)) (by decide) rfl rfl (fun C h => by cases h) rfl wa_int ⟨by decide, by decide⟩ (by decide) (by decide) (by omega) dX2_init_23 ⟨Nat.le_of_ble_eq_true rfl, Nat.le_of_ble_eq_true rfl⟩ ?_
  refine D_putR X (ty := (.array .int)) (k := k) (j := 3) 3 ⟨by omega, (show lay (k) = (0, 2) from hL 0 (by decide))⟩ rfl inX2 tyX2_ok nmX2 (by decide) rfl rfl (by decide) rfl rfl wf_X2_18 rfl hnm rfl (by decide +kernel) (fun _ => rfl) (fun _ => rfl) dX2_init_25 ?_
  refine D_aload_n X 0 dX2_init_28 rfl rfl ?_
  refine D_bipush X dX2_init_29 (by decide +kernel) ?_
  refine D_newa X (atype := .int) (t := 0) (show lay (k + 4) = (1, 8) from hL 4 (by decide)) (by decide) rfl rfl (fun C h => by cases h) rfl wa_int ⟨by decide, by decide⟩ (by decide) (by decide) (by omega) dX2_init_31 ⟨Nat.le_of_ble_eq_true rfl, Nat.le_of_ble_eq_true rfl⟩ ?_
  refine D_putR X (ty := (.array .int)) (k := k) (j := 4) 4 ⟨by omega, (show lay (k) = (0, 2) from hL 0 (by decide))⟩ rfl inX2 tyX2_ok nmX2 (by decide) rfl rfl (by decide) rfl rfl wf_X2_21 rfl hnm rfl (by decide +kernel) (fun _ => rfl) (fun _ => rfl) dX2_init_33 ?_
  refine D_aload_n X 0 dX2_init_36 rfl rfl ?_
  refine D_bipush X dX2_init_37 (by decide +kernel) ?_
  refine D_newa X (atype := .boolean) (t := 1) (show lay (k + 5) = (2, 8) from hL 5 (by decide)) (by decide) rfl rfl (fun C h => by cases h) rfl wa_boolean ⟨by decide, by decide⟩ (by decide) (by decide) (by omega) dX2_init_39 ⟨Nat.le_of_ble_eq_true rfl, Nat.le_of_ble_eq_true rfl⟩ ?_
  refine D_putR X (ty := (.array .boolean)) (k := k) (j := 5) 5 ⟨by omega, (show lay (k) = (0, 2) from hL 0 (by decide))⟩ rfl inX2 tyX2_ok nmX2 (by decide) rfl rfl (by decide) rfl rfl wf_X2_24 rfl hnm rfl (by decide +kernel) (fun _ => rfl) (fun _ => rfl) dX2_init_41 ?_
  refine D_aload_n X 0 dX2_init_44 rfl rfl ?_
  refine D_sipush X dX2_init_45 (by decide +kernel) ?_
  refine D_newa X (atype := .int) (t := 0) (show lay (k + 6) = (1, 128) from hL 6 (by decide)) (by decide) rfl rfl (fun C h => by cases h) rfl wa_int ⟨by decide, by decide⟩ (by decide) (by decide) (by omega) dX2_init_48 ⟨Nat.le_of_ble_eq_true rfl, Nat.le_of_ble_eq_true rfl⟩ ?_
  refine D_putR X (ty := (.array .int)) (k := k) (j := 6) 6 ⟨by omega, (show lay (k) = (0, 2) from hL 0 (by decide))⟩ rfl inX2 tyX2_ok nmX2 (by decide) rfl rfl (by decide) rfl rfl wf_X2_28 rfl hnm rfl (by decide +kernel) (fun _ => rfl) (fun _ => rfl) dX2_init_50 ?_
  refine D_aload_n X 0 dX2_init_53 rfl rfl ?_
  refine D_getR X (k := k) (j := 6) 6 (k + 6) ⟨by omega, (show lay (k) = (0, 2) from hL 0 (by decide))⟩ (by simp [wr, ml, flM, up, Nat.add_assoc]) rfl inX2 (by decide) rfl rfl (by decide) rfl rfl wf_X2_28 dX2_init_54 ?_
  refine D_bipush X dX2_init_57 (by decide +kernel) ?_
  refine D_callS X (av := [.ref (h0 + (k + 6)), .int (zI (-5))]) (rest := []) (cd_fill l D cas h0 (k := k + 6) (N := 128) (v := (-5)) ⟨by omega, (show lay (k + 6) = (1, 128) from hL 6 (by decide))⟩ (by decide) _) zy_fill wm_X2_31 rfl rfl (by omega) ⟨Nat.le_of_ble_eq_true rfl, Nat.le_of_ble_eq_true rfl⟩ ⟨Nat.le_of_ble_eq_true rfl, Nat.le_of_ble_eq_true rfl⟩ (Nat.le_of_ble_eq_true rfl) dX2_init_59 ?_
  refine D_aload_n X 0 dX2_init_62 rfl rfl ?_
  refine D_iconst X dX2_init_63 ?_
  refine D_put X (k := k) (j := 0) ⟨by omega, (show lay (k) = (0, 2) from hL 0 (by decide))⟩ rfl inX2 tyX2_ok nmX2 (by decide) rfl rfl rfl wf_X2_37 rfl (by decide +kernel) (z_nI _) (z_fI _) dX2_init_64 ?_
  refine D_aload_n X 0 dX2_init_67 rfl rfl ?_
  refine D_getR X (k := k) (j := 2) 2 (k + 2) ⟨by omega, (show lay (k) = (0, 2) from hL 0 (by decide))⟩ (by simp [wr, ml, flM, up, Nat.add_assoc]) rfl inX2 (by decide) rfl rfl (by decide) rfl rfl wf_X2_15 dX2_init_68 ?_
  refine D_iconst X dX2_init_71 ?_
  refine D_bipush X dX2_init_72 (by decide +kernel) ?_
  refine D_iast X (k := k + 2) 0 ⟨by omega, (show lay (k + 2) = (1, 8) from hL 2 (by decide))⟩ (by decide) (by decide) rfl dX2_init_74 ?_
  refine D_aload_n X 0 dX2_init_75 rfl rfl ?_
  refine D_getR X (k := k) (j := 3) 3 (k + 3) ⟨by omega, (show lay (k) = (0, 2) from hL 0 (by decide))⟩ (by simp [wr, ml, flM, up, Nat.add_assoc]) rfl inX2 (by decide) rfl rfl (by decide) rfl rfl wf_X2_18 dX2_init_76 ?_
  refine D_iconst X dX2_init_79 ?_
  refine D_bipush X dX2_init_80 (by decide +kernel) ?_
  refine D_iast X (k := k + 3) 0 ⟨by omega, (show lay (k + 3) = (1, 8) from hL 3 (by decide))⟩ (by decide) (by decide) rfl dX2_init_82 ?_
  exact D_vret X hr hk0 dX2_init_83 rfl rfl rfl rfl
theorem dX8_init_0 : decode cX8_init 0 = .ok (.aload_n 0, 1) := by decide +kernel
theorem dX8_init_1 : decode cX8_init 1 = .ok (.invokespecial 3, 3) := by decide +kernel
theorem dX8_init_4 : decode cX8_init 4 = .ok (.aload_n 0, 1) := by decide +kernel
theorem dX8_init_5 : decode cX8_init 5 = .ok (.sipush 128, 3) := by decide +kernel
theorem dX8_init_8 : decode cX8_init 8 = .ok (.newarray .int, 2) := by decide +kernel
theorem dX8_init_10 : decode cX8_init 10 = .ok (.putfield 9, 3) := by decide +kernel
theorem dX8_init_13 : decode cX8_init 13 = .ok (.aload_n 0, 1) := by decide +kernel
theorem dX8_init_14 : decode cX8_init 14 = .ok (.sipush 128, 3) := by decide +kernel
theorem dX8_init_17 : decode cX8_init 17 = .ok (.newarray .int, 2) := by decide +kernel
theorem dX8_init_19 : decode cX8_init 19 = .ok (.putfield 15, 3) := by decide +kernel
theorem dX8_init_22 : decode cX8_init 22 = .ok (.aload_n 0, 1) := by decide +kernel
theorem dX8_init_23 : decode cX8_init 23 = .ok (.getfield 9, 3) := by decide +kernel
theorem dX8_init_26 : decode cX8_init 26 = .ok (.bipush (-5), 2) := by decide +kernel
theorem dX8_init_28 : decode cX8_init 28 = .ok (.invokestatic 18, 3) := by decide +kernel
theorem dX8_init_31 : decode cX8_init 31 = .ok (.return_, 1) := by decide +kernel
def lx_8 : List (Nat × Nat) := [(0, 8), (1, 128), (1, 128)]
def g_X8_init (k : Nat) (M : Mem) : Mem :=
  (flM (wr (ml (wr (ml M (k + 1) fun _ => 0) k 0 1) (k + 2) fun _ => 0) k 1 1) (k + 1) 128 (-5))
set_option maxRecDepth 100000 in
set_option maxHeartbeats 4000000 in
theorem cd_X8_init (l : Launch) (D : va_G) (cas : Nat → ClassId) (h0 k : Nat) (hL : ∀ j, j < 3 → lay (k + j) = lx_8.getD j (9, 0)) (M : Mem) : zKd l D cas h0 yX8_init cX8_init 1 1 23 2 256 [.ref (h0 + k)] (k + 1) M (k + 3) (g_X8_init k M) := by
  refine zbodyD (by decide) (Nat.le_of_ble_eq_true rfl) ?_
  intro p e s m args below meth c X hr hk0 hnm
  have hnm : meth.name = "<init>" := hnm
  have X : zY p s m args c cX8_init "ShardTrails$Tracks" 1 D cas h0 (k + 1) := X
  refine (?_ : WD p l e (zro 1 23 2 256) s m args below meth c D cas h0 1 (MQ below (zQd D cas h0 (k + 3) (g_X8_init k M)) args s 2 256 (fun q => h0 ≤ q)) 0 0 0 [(0, .ref (h0 + k))] [] (k + 1) M)
  refine D_aload_n X 0 dX8_init_0 rfl rfl ?_
  refine D_obj X wm_X8_3 zo_i zo_c dX8_init_1 (by decide) (Nat.le_of_ble_eq_true rfl) ?_
  refine D_aload_n X 0 dX8_init_4 rfl rfl ?_
  refine D_sipush X dX8_init_5 (by decide +kernel) ?_
  refine D_newa X (atype := .int) (t := 0) (show lay (k + 1) = (1, 128) from hL 1 (by decide)) (by decide) rfl rfl (fun C h => by cases h) rfl wa_int ⟨by decide, by decide⟩ (by decide) (by decide) (by omega) dX8_init_8 ⟨Nat.le_of_ble_eq_true rfl, Nat.le_of_ble_eq_true rfl⟩ ?_
  refine D_putR X (ty := (.array .int)) (k := k) (j := 0) 1 ⟨by omega, (show lay (k) = (0, 8) from hL 0 (by decide))⟩ rfl inX8 tyX8_ok nmX8 (by decide) rfl rfl (by decide) rfl rfl wf_X8_9 rfl hnm rfl (by decide +kernel) (fun _ => rfl) (fun _ => rfl) dX8_init_10 ?_
  refine D_aload_n X 0 dX8_init_13 rfl rfl ?_
  refine D_sipush X dX8_init_14 (by decide +kernel) ?_
  refine D_newa X (atype := .int) (t := 0) (show lay (k + 2) = (1, 128) from hL 2 (by decide)) (by decide) rfl rfl (fun C h => by cases h) rfl wa_int ⟨by decide, by decide⟩ (by decide) (by decide) (by omega) dX8_init_17 ⟨Nat.le_of_ble_eq_true rfl, Nat.le_of_ble_eq_true rfl⟩ ?_
  refine D_putR X (ty := (.array .int)) (k := k) (j := 1) 2 ⟨by omega, (show lay (k) = (0, 8) from hL 0 (by decide))⟩ rfl inX8 tyX8_ok nmX8 (by decide) rfl rfl (by decide) rfl rfl wf_X8_15 rfl hnm rfl (by decide +kernel) (fun _ => rfl) (fun _ => rfl) dX8_init_19 ?_
  refine D_aload_n X 0 dX8_init_22 rfl rfl ?_
  refine D_getR X (k := k) (j := 0) 1 (k + 1) ⟨by omega, (show lay (k) = (0, 8) from hL 0 (by decide))⟩ (by simp [wr, ml, flM, up, Nat.add_assoc]) rfl inX8 (by decide) rfl rfl (by decide) rfl rfl wf_X8_9 dX8_init_23 ?_
  refine D_bipush X dX8_init_26 (by decide +kernel) ?_
  refine D_callS X (av := [.ref (h0 + (k + 1)), .int (zI (-5))]) (rest := []) (cd_fill l D cas h0 (k := k + 1) (N := 128) (v := (-5)) ⟨by omega, (show lay (k + 1) = (1, 128) from hL 1 (by decide))⟩ (by decide) _) zy_fill wm_X8_18 rfl rfl (by omega) ⟨Nat.le_of_ble_eq_true rfl, Nat.le_of_ble_eq_true rfl⟩ ⟨Nat.le_of_ble_eq_true rfl, Nat.le_of_ble_eq_true rfl⟩ (Nat.le_of_ble_eq_true rfl) dX8_init_28 ?_
  exact D_vret X hr hk0 dX8_init_31 rfl rfl rfl rfl
theorem dX0_init_0 : decode cX0_init 0 = .ok (.aload_n 0, 1) := by decide +kernel
theorem dX0_init_1 : decode cX0_init 1 = .ok (.invokespecial 3, 3) := by decide +kernel
theorem dX0_init_4 : decode cX0_init 4 = .ok (.aload_n 0, 1) := by decide +kernel
theorem dX0_init_5 : decode cX0_init 5 = .ok (.bipush 16, 2) := by decide +kernel
theorem dX0_init_7 : decode cX0_init 7 = .ok (.newarray .int, 2) := by decide +kernel
theorem dX0_init_9 : decode cX0_init 9 = .ok (.putfield 9, 3) := by decide +kernel
theorem dX0_init_12 : decode cX0_init 12 = .ok (.aload_n 0, 1) := by decide +kernel
theorem dX0_init_13 : decode cX0_init 13 = .ok (.bipush 16, 2) := by decide +kernel
theorem dX0_init_15 : decode cX0_init 15 = .ok (.newarray .int, 2) := by decide +kernel
theorem dX0_init_17 : decode cX0_init 17 = .ok (.putfield 15, 3) := by decide +kernel
theorem dX0_init_20 : decode cX0_init 20 = .ok (.aload_n 0, 1) := by decide +kernel
theorem dX0_init_21 : decode cX0_init 21 = .ok (.bipush 16, 2) := by decide +kernel
theorem dX0_init_23 : decode cX0_init 23 = .ok (.newarray .int, 2) := by decide +kernel
theorem dX0_init_25 : decode cX0_init 25 = .ok (.putfield 18, 3) := by decide +kernel
theorem dX0_init_28 : decode cX0_init 28 = .ok (.aload_n 0, 1) := by decide +kernel
theorem dX0_init_29 : decode cX0_init 29 = .ok (.sipush 256, 3) := by decide +kernel
theorem dX0_init_32 : decode cX0_init 32 = .ok (.newarray .int, 2) := by decide +kernel
theorem dX0_init_34 : decode cX0_init 34 = .ok (.putfield 21, 3) := by decide +kernel
theorem dX0_init_37 : decode cX0_init 37 = .ok (.return_, 1) := by decide +kernel
def lx_0 : List (Nat × Nat) := [(0, 0), (1, 16), (1, 16), (1, 16), (1, 256)]
def g_X0_init (k : Nat) (M : Mem) : Mem :=
  (wr (ml (wr (ml (wr (ml (wr (ml M (k + 1) fun _ => 0) k 0 1) (k + 2) fun _ => 0) k 1 1) (k + 3) fun _ => 0) k 2 1) (k + 4) fun _ => 0) k 3 1)
set_option maxRecDepth 100000 in
set_option maxHeartbeats 4000000 in
theorem cd_X0_init (l : Launch) (D : va_G) (cas : Nat → ClassId) (h0 k : Nat) (hL : ∀ j, j < 5 → lay (k + j) = lx_0.getD j (9, 0)) (M : Mem) : zKd l D cas h0 yX0_init cX0_init 1 1 20 4 304 [.ref (h0 + k)] (k + 1) M (k + 5) (g_X0_init k M) := by
  refine zbodyD (by decide) (Nat.le_of_ble_eq_true rfl) ?_
  intro p e s m args below meth c X hr hk0 hnm
  have hnm : meth.name = "<init>" := hnm
  have X : zY p s m args c cX0_init "ShardTrails$Herd" 1 D cas h0 (k + 1) := X
  refine (?_ : WD p l e (zro 1 20 4 304) s m args below meth c D cas h0 1 (MQ below (zQd D cas h0 (k + 5) (g_X0_init k M)) args s 4 304 (fun q => h0 ≤ q)) 0 0 0 [(0, .ref (h0 + k))] [] (k + 1) M)
  refine D_aload_n X 0 dX0_init_0 rfl rfl ?_
  refine D_obj X wm_X0_3 zo_i zo_c dX0_init_1 (by decide) (Nat.le_of_ble_eq_true rfl) ?_
  refine D_aload_n X 0 dX0_init_4 rfl rfl ?_
  refine D_bipush X dX0_init_5 (by decide +kernel) ?_
  refine D_newa X (atype := .int) (t := 0) (show lay (k + 1) = (1, 16) from hL 1 (by decide)) (by decide) rfl rfl (fun C h => by cases h) rfl wa_int ⟨by decide, by decide⟩ (by decide) (by decide) (by omega) dX0_init_7 ⟨Nat.le_of_ble_eq_true rfl, Nat.le_of_ble_eq_true rfl⟩ ?_
  refine D_putR X (ty := (.array .int)) (k := k) (j := 0) 1 ⟨by omega, (show lay (k) = (0, 0) from hL 0 (by decide))⟩ rfl inX0 tyX0_ok nmX0 (by decide) rfl rfl (by decide) rfl rfl wf_X0_9 rfl hnm rfl (by decide +kernel) (fun _ => rfl) (fun _ => rfl) dX0_init_9 ?_
  refine D_aload_n X 0 dX0_init_12 rfl rfl ?_
  refine D_bipush X dX0_init_13 (by decide +kernel) ?_
  refine D_newa X (atype := .int) (t := 0) (show lay (k + 2) = (1, 16) from hL 2 (by decide)) (by decide) rfl rfl (fun C h => by cases h) rfl wa_int ⟨by decide, by decide⟩ (by decide) (by decide) (by omega) dX0_init_15 ⟨Nat.le_of_ble_eq_true rfl, Nat.le_of_ble_eq_true rfl⟩ ?_
  refine D_putR X (ty := (.array .int)) (k := k) (j := 1) 2 ⟨by omega, (show lay (k) = (0, 0) from hL 0 (by decide))⟩ rfl inX0 tyX0_ok nmX0 (by decide) rfl rfl (by decide) rfl rfl wf_X0_15 rfl hnm rfl (by decide +kernel) (fun _ => rfl) (fun _ => rfl) dX0_init_17 ?_
  refine D_aload_n X 0 dX0_init_20 rfl rfl ?_
  refine D_bipush X dX0_init_21 (by decide +kernel) ?_
  refine D_newa X (atype := .int) (t := 0) (show lay (k + 3) = (1, 16) from hL 3 (by decide)) (by decide) rfl rfl (fun C h => by cases h) rfl wa_int ⟨by decide, by decide⟩ (by decide) (by decide) (by omega) dX0_init_23 ⟨Nat.le_of_ble_eq_true rfl, Nat.le_of_ble_eq_true rfl⟩ ?_
  refine D_putR X (ty := (.array .int)) (k := k) (j := 2) 3 ⟨by omega, (show lay (k) = (0, 0) from hL 0 (by decide))⟩ rfl inX0 tyX0_ok nmX0 (by decide) rfl rfl (by decide) rfl rfl wf_X0_18 rfl hnm rfl (by decide +kernel) (fun _ => rfl) (fun _ => rfl) dX0_init_25 ?_
  refine D_aload_n X 0 dX0_init_28 rfl rfl ?_
  refine D_sipush X dX0_init_29 (by decide +kernel) ?_
  refine D_newa X (atype := .int) (t := 0) (show lay (k + 4) = (1, 256) from hL 4 (by decide)) (by decide) rfl rfl (fun C h => by cases h) rfl wa_int ⟨by decide, by decide⟩ (by decide) (by decide) (by omega) dX0_init_32 ⟨Nat.le_of_ble_eq_true rfl, Nat.le_of_ble_eq_true rfl⟩ ?_
  refine D_putR X (ty := (.array .int)) (k := k) (j := 3) 4 ⟨by omega, (show lay (k) = (0, 0) from hL 0 (by decide))⟩ rfl inX0 tyX0_ok nmX0 (by decide) rfl rfl (by decide) rfl rfl wf_X0_21 rfl hnm rfl (by decide +kernel) (fun _ => rfl) (fun _ => rfl) dX0_init_34 ?_
  exact D_vret X hr hk0 dX0_init_37 rfl rfl rfl rfl
theorem dX3_init_0 : decode cX3_init 0 = .ok (.aload_n 0, 1) := by decide +kernel
theorem dX3_init_1 : decode cX3_init 1 = .ok (.invokespecial 3, 3) := by decide +kernel
theorem dX3_init_4 : decode cX3_init 4 = .ok (.aload_n 0, 1) := by decide +kernel
theorem dX3_init_5 : decode cX3_init 5 = .ok (.iconst 3, 1) := by decide +kernel
theorem dX3_init_6 : decode cX3_init 6 = .ok (.newarray .int, 2) := by decide +kernel
theorem dX3_init_8 : decode cX3_init 8 = .ok (.putfield 9, 3) := by decide +kernel
theorem dX3_init_11 : decode cX3_init 11 = .ok (.aload_n 0, 1) := by decide +kernel
theorem dX3_init_12 : decode cX3_init 12 = .ok (.iconst 3, 1) := by decide +kernel
theorem dX3_init_13 : decode cX3_init 13 = .ok (.newarray .int, 2) := by decide +kernel
theorem dX3_init_15 : decode cX3_init 15 = .ok (.putfield 15, 3) := by decide +kernel
theorem dX3_init_18 : decode cX3_init 18 = .ok (.return_, 1) := by decide +kernel
def lx_3 : List (Nat × Nat) := [(0, 3), (1, 3), (1, 3)]
def g_X3_init (k : Nat) (M : Mem) : Mem :=
  (wr (ml (wr (ml M (k + 1) fun _ => 0) k 1 1) (k + 2) fun _ => 0) k 2 1)
set_option maxRecDepth 100000 in
set_option maxHeartbeats 4000000 in
theorem cd_X3_init (l : Launch) (D : va_G) (cas : Nat → ClassId) (h0 k : Nat) (hL : ∀ j, j < 3 → lay (k + j) = lx_3.getD j (9, 0)) (M : Mem) : zKd l D cas h0 yX3_init cX3_init 1 1 20 2 6 [.ref (h0 + k)] (k + 1) M (k + 3) (g_X3_init k M) := by
  refine zbodyD (by decide) (Nat.le_of_ble_eq_true rfl) ?_
  intro p e s m args below meth c X hr hk0 hnm
  have hnm : meth.name = "<init>" := hnm
  have X : zY p s m args c cX3_init "ShardTrails$Pack" 1 D cas h0 (k + 1) := X
  refine (?_ : WD p l e (zro 1 20 2 6) s m args below meth c D cas h0 1 (MQ below (zQd D cas h0 (k + 3) (g_X3_init k M)) args s 2 6 (fun q => h0 ≤ q)) 0 0 0 [(0, .ref (h0 + k))] [] (k + 1) M)
  refine D_aload_n X 0 dX3_init_0 rfl rfl ?_
  refine D_obj X wm_X3_3 zo_i zo_c dX3_init_1 (by decide) (Nat.le_of_ble_eq_true rfl) ?_
  refine D_aload_n X 0 dX3_init_4 rfl rfl ?_
  refine D_iconst X dX3_init_5 ?_
  refine D_newa X (atype := .int) (t := 0) (show lay (k + 1) = (1, 3) from hL 1 (by decide)) (by decide) rfl rfl (fun C h => by cases h) rfl wa_int ⟨by decide, by decide⟩ (by decide) (by decide) (by omega) dX3_init_6 ⟨Nat.le_of_ble_eq_true rfl, Nat.le_of_ble_eq_true rfl⟩ ?_
  refine D_putR X (ty := (.array .int)) (k := k) (j := 1) 1 ⟨by omega, (show lay (k) = (0, 3) from hL 0 (by decide))⟩ rfl inX3 tyX3_ok nmX3 (by decide) rfl rfl (by decide) rfl rfl wf_X3_9 rfl hnm rfl (by decide +kernel) (fun _ => rfl) (fun _ => rfl) dX3_init_8 ?_
  refine D_aload_n X 0 dX3_init_11 rfl rfl ?_
  refine D_iconst X dX3_init_12 ?_
  refine D_newa X (atype := .int) (t := 0) (show lay (k + 2) = (1, 3) from hL 2 (by decide)) (by decide) rfl rfl (fun C h => by cases h) rfl wa_int ⟨by decide, by decide⟩ (by decide) (by decide) (by omega) dX3_init_13 ⟨Nat.le_of_ble_eq_true rfl, Nat.le_of_ble_eq_true rfl⟩ ?_
  refine D_putR X (ty := (.array .int)) (k := k) (j := 2) 2 ⟨by omega, (show lay (k) = (0, 3) from hL 0 (by decide))⟩ rfl inX3 tyX3_ok nmX3 (by decide) rfl rfl (by decide) rfl rfl wf_X3_15 rfl hnm rfl (by decide +kernel) (fun _ => rfl) (fun _ => rfl) dX3_init_15 ?_
  exact D_vret X hr hk0 dX3_init_18 rfl rfl rfl rfl
theorem dX4_init_0 : decode cX4_init 0 = .ok (.aload_n 0, 1) := by decide +kernel
theorem dX4_init_1 : decode cX4_init 1 = .ok (.invokespecial 3, 3) := by decide +kernel
theorem dX4_init_4 : decode cX4_init 4 = .ok (.aload_n 0, 1) := by decide +kernel
theorem dX4_init_5 : decode cX4_init 5 = .ok (.bipush 6, 2) := by decide +kernel
theorem dX4_init_7 : decode cX4_init 7 = .ok (.newarray .int, 2) := by decide +kernel
theorem dX4_init_9 : decode cX4_init 9 = .ok (.putfield 9, 3) := by decide +kernel
theorem dX4_init_12 : decode cX4_init 12 = .ok (.aload_n 0, 1) := by decide +kernel
theorem dX4_init_13 : decode cX4_init 13 = .ok (.bipush 6, 2) := by decide +kernel
theorem dX4_init_15 : decode cX4_init 15 = .ok (.newarray .int, 2) := by decide +kernel
theorem dX4_init_17 : decode cX4_init 17 = .ok (.putfield 15, 3) := by decide +kernel
theorem dX4_init_20 : decode cX4_init 20 = .ok (.aload_n 0, 1) := by decide +kernel
theorem dX4_init_21 : decode cX4_init 21 = .ok (.bipush 6, 2) := by decide +kernel
theorem dX4_init_23 : decode cX4_init 23 = .ok (.newarray .int, 2) := by decide +kernel
theorem dX4_init_25 : decode cX4_init 25 = .ok (.putfield 18, 3) := by decide +kernel
theorem dX4_init_28 : decode cX4_init 28 = .ok (.aload_n 0, 1) := by decide +kernel
theorem dX4_init_29 : decode cX4_init 29 = .ok (.bipush 6, 2) := by decide +kernel
theorem dX4_init_31 : decode cX4_init 31 = .ok (.newarray .int, 2) := by decide +kernel
theorem dX4_init_33 : decode cX4_init 33 = .ok (.putfield 21, 3) := by decide +kernel
theorem dX4_init_36 : decode cX4_init 36 = .ok (.aload_n 0, 1) := by decide +kernel
theorem dX4_init_37 : decode cX4_init 37 = .ok (.bipush 6, 2) := by decide +kernel
theorem dX4_init_39 : decode cX4_init 39 = .ok (.newarray .int, 2) := by decide +kernel
theorem dX4_init_41 : decode cX4_init 41 = .ok (.putfield 24, 3) := by decide +kernel
theorem dX4_init_44 : decode cX4_init 44 = .ok (.aload_n 0, 1) := by decide +kernel
theorem dX4_init_45 : decode cX4_init 45 = .ok (.bipush 96, 2) := by decide +kernel
theorem dX4_init_47 : decode cX4_init 47 = .ok (.newarray .int, 2) := by decide +kernel
theorem dX4_init_49 : decode cX4_init 49 = .ok (.putfield 27, 3) := by decide +kernel
theorem dX4_init_52 : decode cX4_init 52 = .ok (.return_, 1) := by decide +kernel
def lx_4 : List (Nat × Nat) := [(0, 4), (1, 6), (1, 6), (1, 6), (1, 6), (1, 6), (1, 96)]
def g_X4_init (k : Nat) (M : Mem) : Mem :=
  (wr (ml (wr (ml (wr (ml (wr (ml (wr (ml (wr (ml M (k + 1) fun _ => 0) k 1 1) (k + 2) fun _ => 0) k 2 1) (k + 3) fun _ => 0) k 3 1) (k + 4) fun _ => 0) k 4 1) (k + 5) fun _ => 0) k 5 1) (k + 6) fun _ => 0) k 6 1)
set_option maxRecDepth 100000 in
set_option maxHeartbeats 4000000 in
theorem cd_X4_init (l : Launch) (D : va_G) (cas : Nat → ClassId) (h0 k : Nat) (hL : ∀ j, j < 7 → lay (k + j) = lx_4.getD j (9, 0)) (M : Mem) : zKd l D cas h0 yX4_init cX4_init 1 1 20 6 126 [.ref (h0 + k)] (k + 1) M (k + 7) (g_X4_init k M) := by
  refine zbodyD (by decide) (Nat.le_of_ble_eq_true rfl) ?_
  intro p e s m args below meth c X hr hk0 hnm
  have hnm : meth.name = "<init>" := hnm
  have X : zY p s m args c cX4_init "ShardTrails$Readers" 1 D cas h0 (k + 1) := X
  refine (?_ : WD p l e (zro 1 20 6 126) s m args below meth c D cas h0 1 (MQ below (zQd D cas h0 (k + 7) (g_X4_init k M)) args s 6 126 (fun q => h0 ≤ q)) 0 0 0 [(0, .ref (h0 + k))] [] (k + 1) M)
  refine D_aload_n X 0 dX4_init_0 rfl rfl ?_
  refine D_obj X wm_X4_3 zo_i zo_c dX4_init_1 (by decide) (Nat.le_of_ble_eq_true rfl) ?_
  refine D_aload_n X 0 dX4_init_4 rfl rfl ?_
  refine D_bipush X dX4_init_5 (by decide +kernel) ?_
  refine D_newa X (atype := .int) (t := 0) (show lay (k + 1) = (1, 6) from hL 1 (by decide)) (by decide) rfl rfl (fun C h => by cases h) rfl wa_int ⟨by decide, by decide⟩ (by decide) (by decide) (by omega) dX4_init_7 ⟨Nat.le_of_ble_eq_true rfl, Nat.le_of_ble_eq_true rfl⟩ ?_
  refine D_putR X (ty := (.array .int)) (k := k) (j := 1) 1 ⟨by omega, (show lay (k) = (0, 4) from hL 0 (by decide))⟩ rfl inX4 tyX4_ok nmX4 (by decide) rfl rfl (by decide) rfl rfl wf_X4_9 rfl hnm rfl (by decide +kernel) (fun _ => rfl) (fun _ => rfl) dX4_init_9 ?_
  refine D_aload_n X 0 dX4_init_12 rfl rfl ?_
  refine D_bipush X dX4_init_13 (by decide +kernel) ?_
  refine D_newa X (atype := .int) (t := 0) (show lay (k + 2) = (1, 6) from hL 2 (by decide)) (by decide) rfl rfl (fun C h => by cases h) rfl wa_int ⟨by decide, by decide⟩ (by decide) (by decide) (by omega) dX4_init_15 ⟨Nat.le_of_ble_eq_true rfl, Nat.le_of_ble_eq_true rfl⟩ ?_
  refine D_putR X (ty := (.array .int)) (k := k) (j := 2) 2 ⟨by omega, (show lay (k) = (0, 4) from hL 0 (by decide))⟩ rfl inX4 tyX4_ok nmX4 (by decide) rfl rfl (by decide) rfl rfl wf_X4_15 rfl hnm rfl (by decide +kernel) (fun _ => rfl) (fun _ => rfl) dX4_init_17 ?_
  refine D_aload_n X 0 dX4_init_20 rfl rfl ?_
  refine D_bipush X dX4_init_21 (by decide +kernel) ?_
  refine D_newa X (atype := .int) (t := 0) (show lay (k + 3) = (1, 6) from hL 3 (by decide)) (by decide) rfl rfl (fun C h => by cases h) rfl wa_int ⟨by decide, by decide⟩ (by decide) (by decide) (by omega) dX4_init_23 ⟨Nat.le_of_ble_eq_true rfl, Nat.le_of_ble_eq_true rfl⟩ ?_
  refine D_putR X (ty := (.array .int)) (k := k) (j := 3) 3 ⟨by omega, (show lay (k) = (0, 4) from hL 0 (by decide))⟩ rfl inX4 tyX4_ok nmX4 (by decide) rfl rfl (by decide) rfl rfl wf_X4_18 rfl hnm rfl (by decide +kernel) (fun _ => rfl) (fun _ => rfl) dX4_init_25 ?_
  refine D_aload_n X 0 dX4_init_28 rfl rfl ?_
  refine D_bipush X dX4_init_29 (by decide +kernel) ?_
  refine D_newa X (atype := .int) (t := 0) (show lay (k + 4) = (1, 6) from hL 4 (by decide)) (by decide) rfl rfl (fun C h => by cases h) rfl wa_int ⟨by decide, by decide⟩ (by decide) (by decide) (by omega) dX4_init_31 ⟨Nat.le_of_ble_eq_true rfl, Nat.le_of_ble_eq_true rfl⟩ ?_
  refine D_putR X (ty := (.array .int)) (k := k) (j := 4) 4 ⟨by omega, (show lay (k) = (0, 4) from hL 0 (by decide))⟩ rfl inX4 tyX4_ok nmX4 (by decide) rfl rfl (by decide) rfl rfl wf_X4_21 rfl hnm rfl (by decide +kernel) (fun _ => rfl) (fun _ => rfl) dX4_init_33 ?_
  refine D_aload_n X 0 dX4_init_36 rfl rfl ?_
  refine D_bipush X dX4_init_37 (by decide +kernel) ?_
  refine D_newa X (atype := .int) (t := 0) (show lay (k + 5) = (1, 6) from hL 5 (by decide)) (by decide) rfl rfl (fun C h => by cases h) rfl wa_int ⟨by decide, by decide⟩ (by decide) (by decide) (by omega) dX4_init_39 ⟨Nat.le_of_ble_eq_true rfl, Nat.le_of_ble_eq_true rfl⟩ ?_
  refine D_putR X (ty := (.array .int)) (k := k) (j := 5) 5 ⟨by omega, (show lay (k) = (0, 4) from hL 0 (by decide))⟩ rfl inX4 tyX4_ok nmX4 (by decide) rfl rfl (by decide) rfl rfl wf_X4_24 rfl hnm rfl (by decide +kernel) (fun _ => rfl) (fun _ => rfl) dX4_init_41 ?_
  refine D_aload_n X 0 dX4_init_44 rfl rfl ?_
  refine D_bipush X dX4_init_45 (by decide +kernel) ?_
  refine D_newa X (atype := .int) (t := 0) (show lay (k + 6) = (1, 96) from hL 6 (by decide)) (by decide) rfl rfl (fun C h => by cases h) rfl wa_int ⟨by decide, by decide⟩ (by decide) (by decide) (by omega) dX4_init_47 ⟨Nat.le_of_ble_eq_true rfl, Nat.le_of_ble_eq_true rfl⟩ ?_
  refine D_putR X (ty := (.array .int)) (k := k) (j := 6) 6 ⟨by omega, (show lay (k) = (0, 4) from hL 0 (by decide))⟩ rfl inX4 tyX4_ok nmX4 (by decide) rfl rfl (by decide) rfl rfl wf_X4_27 rfl hnm rfl (by decide +kernel) (fun _ => rfl) (fun _ => rfl) dX4_init_49 ?_
  exact D_vret X hr hk0 dX4_init_52 rfl rfl rfl rfl
theorem dX7_init_0 : decode cX7_init 0 = .ok (.aload_n 0, 1) := by decide +kernel
theorem dX7_init_1 : decode cX7_init 1 = .ok (.invokespecial 3, 3) := by decide +kernel
theorem dX7_init_4 : decode cX7_init 4 = .ok (.aload_n 0, 1) := by decide +kernel
theorem dX7_init_5 : decode cX7_init 5 = .ok (.getstatic 9, 3) := by decide +kernel
theorem dX7_init_8 : decode cX7_init 8 = .ok (.invokevirtual 13, 3) := by decide +kernel
theorem dX7_init_11 : decode cX7_init 11 = .ok (.checkcast 14, 3) := by decide +kernel
theorem dX7_init_14 : decode cX7_init 14 = .ok (.putfield 18, 3) := by decide +kernel
theorem dX7_init_17 : decode cX7_init 17 = .ok (.aload_n 0, 1) := by decide +kernel
theorem dX7_init_18 : decode cX7_init 18 = .ok (.getstatic 23, 3) := by decide +kernel
theorem dX7_init_21 : decode cX7_init 21 = .ok (.invokevirtual 13, 3) := by decide +kernel
theorem dX7_init_24 : decode cX7_init 24 = .ok (.checkcast 14, 3) := by decide +kernel
theorem dX7_init_27 : decode cX7_init 27 = .ok (.putfield 26, 3) := by decide +kernel
theorem dX7_init_30 : decode cX7_init 30 = .ok (.aload_n 0, 1) := by decide +kernel
theorem dX7_init_31 : decode cX7_init 31 = .ok (.new 29, 3) := by decide +kernel
theorem dX7_init_34 : decode cX7_init 34 = .ok (.dup, 1) := by decide +kernel
theorem dX7_init_35 : decode cX7_init 35 = .ok (.invokespecial 31, 3) := by decide +kernel
theorem dX7_init_38 : decode cX7_init 38 = .ok (.putfield 32, 3) := by decide +kernel
theorem dX7_init_41 : decode cX7_init 41 = .ok (.aload_n 0, 1) := by decide +kernel
theorem dX7_init_42 : decode cX7_init 42 = .ok (.new 36, 3) := by decide +kernel
theorem dX7_init_45 : decode cX7_init 45 = .ok (.dup, 1) := by decide +kernel
theorem dX7_init_46 : decode cX7_init 46 = .ok (.invokespecial 38, 3) := by decide +kernel
theorem dX7_init_49 : decode cX7_init 49 = .ok (.putfield 39, 3) := by decide +kernel
theorem dX7_init_52 : decode cX7_init 52 = .ok (.aload_n 0, 1) := by decide +kernel
theorem dX7_init_53 : decode cX7_init 53 = .ok (.new 43, 3) := by decide +kernel
theorem dX7_init_56 : decode cX7_init 56 = .ok (.dup, 1) := by decide +kernel
theorem dX7_init_57 : decode cX7_init 57 = .ok (.invokespecial 45, 3) := by decide +kernel
theorem dX7_init_60 : decode cX7_init 60 = .ok (.putfield 46, 3) := by decide +kernel
theorem dX7_init_63 : decode cX7_init 63 = .ok (.aload_n 0, 1) := by decide +kernel
theorem dX7_init_64 : decode cX7_init 64 = .ok (.new 50, 3) := by decide +kernel
theorem dX7_init_67 : decode cX7_init 67 = .ok (.dup, 1) := by decide +kernel
theorem dX7_init_68 : decode cX7_init 68 = .ok (.invokespecial 52, 3) := by decide +kernel
theorem dX7_init_71 : decode cX7_init 71 = .ok (.putfield 53, 3) := by decide +kernel
theorem dX7_init_74 : decode cX7_init 74 = .ok (.aload_n 0, 1) := by decide +kernel
theorem dX7_init_75 : decode cX7_init 75 = .ok (.new 57, 3) := by decide +kernel
theorem dX7_init_78 : decode cX7_init 78 = .ok (.dup, 1) := by decide +kernel
theorem dX7_init_79 : decode cX7_init 79 = .ok (.invokespecial 59, 3) := by decide +kernel
theorem dX7_init_82 : decode cX7_init 82 = .ok (.putfield 60, 3) := by decide +kernel
theorem dX7_init_85 : decode cX7_init 85 = .ok (.aload_n 0, 1) := by decide +kernel
theorem dX7_init_86 : decode cX7_init 86 = .ok (.bipush 16, 2) := by decide +kernel
theorem dX7_init_88 : decode cX7_init 88 = .ok (.newarray .int, 2) := by decide +kernel
theorem dX7_init_90 : decode cX7_init 90 = .ok (.putfield 64, 3) := by decide +kernel
theorem dX7_init_93 : decode cX7_init 93 = .ok (.return_, 1) := by decide +kernel
def lx_7 : List (Nat × Nat) := [(0, 7), (1, 6), (1, 4), (0, 2), (1, 8), (1, 8), (1, 8), (1, 8), (2, 8), (1, 128), (0, 8), (1, 128), (1, 128), (0, 0), (1, 16), (1, 16), (1, 16), (1, 256), (0, 3), (1, 3), (1, 3), (0, 4), (1, 6), (1, 6), (1, 6), (1, 6), (1, 6), (1, 96), (1, 16)]
def g_X7_init (k : Nat) (M : Mem) : Mem :=
  (wr (ml (wr (g_X4_init (k + 21) (ml (wr (g_X3_init (k + 18) (ml (wr (g_X0_init (k + 13) (ml (wr (g_X8_init (k + 10) (ml (wr (g_X2_init (k + 3) (ml (wr (ml (wr (ml M (k + 1) zR2) k 3 1) (k + 2) zR3) k 4 1) (k + 3) fun _ => 0)) k 5 1) (k + 10) fun _ => 0)) k 6 1) (k + 13) fun _ => 0)) k 7 1) (k + 18) fun _ => 0)) k 8 1) (k + 21) fun _ => 0)) k 9 1) (k + 28) fun _ => 0) k 10 1)
set_option maxRecDepth 100000 in
set_option maxHeartbeats 4000000 in
theorem cd_X7_init (l : Launch) (D : va_G) (cas : Nat → ClassId) (h0 k : Nat) (hL : ∀ j, j < 29 → lay (k + j) = lx_7.getD j (9, 0)) (M : Mem) : zKd l D cas h0 yX7_init cX7_init 1 2 43 28 909 [.ref (h0 + k)] (k + 1) M (k + 29) (g_X7_init k M) := by
  refine zbodyD (by decide) (Nat.le_of_ble_eq_true rfl) ?_
  intro p e s m args below meth c X hr hk0 hnm
  have hnm : meth.name = "<init>" := hnm
  have X : zY p s m args c cX7_init "ShardTrails$State" 1 D cas h0 (k + 1) := X
  refine (?_ : WD p l e (zro 2 43 28 909) s m args below meth c D cas h0 1 (MQ below (zQd D cas h0 (k + 29) (g_X7_init k M)) args s 28 909 (fun q => h0 ≤ q)) 0 0 0 [(0, .ref (h0 + k))] [] (k + 1) M)
  refine D_aload_n X 0 dX7_init_0 rfl rfl ?_
  refine D_obj X wm_X7_3 zo_i zo_c dX7_init_1 (by decide) (Nat.le_of_ble_eq_true rfl) ?_
  refine D_aload_n X 0 dX7_init_4 rfl rfl ?_
  refine D_gets X X.2.2.2.2.2.2.2.1.2.2.1 (List.mem_of_getElem? (i := 0) rfl) dX7_init_5 (fun t9 ht9 hx9 => ?_)
  refine D_clone X ht9 hx9 (show lay (k + 1) = (1, 6) from hL 1 (by decide)) wm_X7_13 wk_1 wk_2 wk_3 wk_4 (by decide) (Nat.le_of_ble_eq_true rfl) (by omega) dX7_init_8 ⟨Nat.le_of_ble_eq_true rfl, Nat.le_of_ble_eq_true rfl⟩ ?_
  refine D_castI X (k := k + 1) ⟨by omega, (show lay (k + 1) = (1, 6) from hL 1 (by decide))⟩ wc_X7_14 dX7_init_11 ?_
  refine D_putR X (ty := (.array .int)) (k := k) (j := 3) 1 ⟨by omega, (show lay (k) = (0, 7) from hL 0 (by decide))⟩ rfl inX7 tyX7_ok nmX7 (by decide) rfl rfl (by decide) rfl rfl wf_X7_18 rfl hnm rfl (by decide +kernel) (fun _ => rfl) (fun _ => rfl) dX7_init_14 ?_
  refine D_aload_n X 0 dX7_init_17 rfl rfl ?_
  refine D_gets X X.2.2.2.2.2.2.2.1.2.2.2 (List.mem_of_getElem? (i := 1) rfl) dX7_init_18 (fun t23 ht23 hx23 => ?_)
  refine D_clone X ht23 hx23 (show lay (k + 2) = (1, 4) from hL 2 (by decide)) wm_X7_13 wk_1 wk_2 wk_3 wk_4 (by decide) (Nat.le_of_ble_eq_true rfl) (by omega) dX7_init_21 ⟨Nat.le_of_ble_eq_true rfl, Nat.le_of_ble_eq_true rfl⟩ ?_
  refine D_castI X (k := k + 2) ⟨by omega, (show lay (k + 2) = (1, 4) from hL 2 (by decide))⟩ wc_X7_14 dX7_init_24 ?_
  refine D_putR X (ty := (.array .int)) (k := k) (j := 4) 2 ⟨by omega, (show lay (k) = (0, 7) from hL 0 (by decide))⟩ rfl inX7 tyX7_ok nmX7 (by decide) rfl rfl (by decide) rfl rfl wf_X7_26 rfl hnm rfl (by decide +kernel) (fun _ => rfl) (fun _ => rfl) dX7_init_27 ?_
  refine D_aload_n X 0 dX7_init_30 rfl rfl ?_
  refine D_new X tyX2 (show lay (k + 3) = (0, 2) from hL 3 (by decide)) rfl rfl inX2 tyX2_ok dv_2 wc_X7_29 wi_2 wz_2 (by omega) dX7_init_31 ⟨Nat.le_of_ble_eq_true rfl, Nat.le_of_ble_eq_true rfl⟩ ?_
  refine D_dup X dX7_init_34 rfl ?_
  refine D_callI X (cd_X2_init l D cas h0 (k + 3) (fun j hj => by have h9 := hL (3 + j) (by omega); rw [← Nat.add_assoc] at h9; exact h9.trans ((by decide : ∀ j, j < 7 → lx_7.getD (3 + j) (9, 0) = lx_2.getD j (9, 0)) j hj)) _) zyi_X2_init wm_X7_31 (by omega) ⟨Nat.le_of_ble_eq_true rfl, Nat.le_of_ble_eq_true rfl⟩ ⟨Nat.le_of_ble_eq_true rfl, Nat.le_of_ble_eq_true rfl⟩ (Nat.le_of_ble_eq_true rfl) dX7_init_35 ?_
  refine D_putR X (ty := (.object "ShardTrails$Land")) (k := k) (j := 5) 3 ⟨by omega, (show lay (k) = (0, 7) from hL 0 (by decide))⟩ rfl inX7 tyX7_ok nmX7 (by decide) rfl rfl (by decide) rfl rfl wf_X7_32 rfl hnm rfl (by decide +kernel) (fun _ => rfl) (fun _ => rfl) dX7_init_38 ?_
  refine D_aload_n X 0 dX7_init_41 rfl rfl ?_
  refine D_new X tyX8 (show lay (k + 10) = (0, 8) from hL 10 (by decide)) rfl rfl inX8 tyX8_ok dv_8 wc_X7_36 wi_8 wz_8 (by omega) dX7_init_42 ⟨Nat.le_of_ble_eq_true rfl, Nat.le_of_ble_eq_true rfl⟩ ?_
  refine D_dup X dX7_init_45 rfl ?_
  refine D_callI X (cd_X8_init l D cas h0 (k + 10) (fun j hj => by have h9 := hL (10 + j) (by omega); rw [← Nat.add_assoc] at h9; exact h9.trans ((by decide : ∀ j, j < 3 → lx_7.getD (10 + j) (9, 0) = lx_8.getD j (9, 0)) j hj)) _) zyi_X8_init wm_X7_38 (by omega) ⟨Nat.le_of_ble_eq_true rfl, Nat.le_of_ble_eq_true rfl⟩ ⟨Nat.le_of_ble_eq_true rfl, Nat.le_of_ble_eq_true rfl⟩ (Nat.le_of_ble_eq_true rfl) dX7_init_46 ?_
  refine D_putR X (ty := (.object "ShardTrails$Tracks")) (k := k) (j := 6) 10 ⟨by omega, (show lay (k) = (0, 7) from hL 0 (by decide))⟩ rfl inX7 tyX7_ok nmX7 (by decide) rfl rfl (by decide) rfl rfl wf_X7_39 rfl hnm rfl (by decide +kernel) (fun _ => rfl) (fun _ => rfl) dX7_init_49 ?_
  refine D_aload_n X 0 dX7_init_52 rfl rfl ?_
  refine D_new X tyX0 (show lay (k + 13) = (0, 0) from hL 13 (by decide)) rfl rfl inX0 tyX0_ok dv_0 wc_X7_43 wi_0 wz_0 (by omega) dX7_init_53 ⟨Nat.le_of_ble_eq_true rfl, Nat.le_of_ble_eq_true rfl⟩ ?_
  refine D_dup X dX7_init_56 rfl ?_
  refine D_callIN X (cd_X0_init l D cas h0 (k + 13) (fun j hj => by have h9 := hL (13 + j) (by omega); rw [← Nat.add_assoc] at h9; exact h9.trans ((by decide : ∀ j, j < 5 → lx_7.getD (13 + j) (9, 0) = lx_0.getD j (9, 0)) j hj)) _) zyi_X0_init wn_X7_45 (by omega) ⟨Nat.le_of_ble_eq_true rfl, Nat.le_of_ble_eq_true rfl⟩ ⟨Nat.le_of_ble_eq_true rfl, Nat.le_of_ble_eq_true rfl⟩ (Nat.le_of_ble_eq_true rfl) dX7_init_57 ?_
  refine D_putR X (ty := (.object "ShardTrails$Herd")) (k := k) (j := 7) 13 ⟨by omega, (show lay (k) = (0, 7) from hL 0 (by decide))⟩ rfl inX7 tyX7_ok nmX7 (by decide) rfl rfl (by decide) rfl rfl wf_X7_46 rfl hnm rfl (by decide +kernel) (fun _ => rfl) (fun _ => rfl) dX7_init_60 ?_
  refine D_aload_n X 0 dX7_init_63 rfl rfl ?_
  refine D_new X tyX3 (show lay (k + 18) = (0, 3) from hL 18 (by decide)) rfl rfl inX3 tyX3_ok dv_3 wc_X7_50 wi_3 wz_3 (by omega) dX7_init_64 ⟨Nat.le_of_ble_eq_true rfl, Nat.le_of_ble_eq_true rfl⟩ ?_
  refine D_dup X dX7_init_67 rfl ?_
  refine D_callIN X (cd_X3_init l D cas h0 (k + 18) (fun j hj => by have h9 := hL (18 + j) (by omega); rw [← Nat.add_assoc] at h9; exact h9.trans ((by decide : ∀ j, j < 3 → lx_7.getD (18 + j) (9, 0) = lx_3.getD j (9, 0)) j hj)) _) zyi_X3_init wn_X7_52 (by omega) ⟨Nat.le_of_ble_eq_true rfl, Nat.le_of_ble_eq_true rfl⟩ ⟨Nat.le_of_ble_eq_true rfl, Nat.le_of_ble_eq_true rfl⟩ (Nat.le_of_ble_eq_true rfl) dX7_init_68 ?_
  refine D_putR X (ty := (.object "ShardTrails$Pack")) (k := k) (j := 8) 18 ⟨by omega, (show lay (k) = (0, 7) from hL 0 (by decide))⟩ rfl inX7 tyX7_ok nmX7 (by decide) rfl rfl (by decide) rfl rfl wf_X7_53 rfl hnm rfl (by decide +kernel) (fun _ => rfl) (fun _ => rfl) dX7_init_71 ?_
  refine D_aload_n X 0 dX7_init_74 rfl rfl ?_
  refine D_new X tyX4 (show lay (k + 21) = (0, 4) from hL 21 (by decide)) rfl rfl inX4 tyX4_ok dv_4 wc_X7_57 wi_4 wz_4 (by omega) dX7_init_75 ⟨Nat.le_of_ble_eq_true rfl, Nat.le_of_ble_eq_true rfl⟩ ?_
  refine D_dup X dX7_init_78 rfl ?_
  refine D_callIN X (cd_X4_init l D cas h0 (k + 21) (fun j hj => by have h9 := hL (21 + j) (by omega); rw [← Nat.add_assoc] at h9; exact h9.trans ((by decide : ∀ j, j < 7 → lx_7.getD (21 + j) (9, 0) = lx_4.getD j (9, 0)) j hj)) _) zyi_X4_init wn_X7_59 (by omega) ⟨Nat.le_of_ble_eq_true rfl, Nat.le_of_ble_eq_true rfl⟩ ⟨Nat.le_of_ble_eq_true rfl, Nat.le_of_ble_eq_true rfl⟩ (Nat.le_of_ble_eq_true rfl) dX7_init_79 ?_
  refine D_putR X (ty := (.object "ShardTrails$Readers")) (k := k) (j := 9) 21 ⟨by omega, (show lay (k) = (0, 7) from hL 0 (by decide))⟩ rfl inX7 tyX7_ok nmX7 (by decide) rfl rfl (by decide) rfl rfl wf_X7_60 rfl hnm rfl (by decide +kernel) (fun _ => rfl) (fun _ => rfl) dX7_init_82 ?_
  refine D_aload_n X 0 dX7_init_85 rfl rfl ?_
  refine D_bipush X dX7_init_86 (by decide +kernel) ?_
  refine D_newa X (atype := .int) (t := 0) (show lay (k + 28) = (1, 16) from hL 28 (by decide)) (by decide) rfl rfl (fun C h => by cases h) rfl wa_int ⟨by decide, by decide⟩ (by decide) (by decide) (by omega) dX7_init_88 ⟨Nat.le_of_ble_eq_true rfl, Nat.le_of_ble_eq_true rfl⟩ ?_
  refine D_putR X (ty := (.array .int)) (k := k) (j := 10) 28 ⟨by omega, (show lay (k) = (0, 7) from hL 0 (by decide))⟩ rfl inX7 tyX7_ok nmX7 (by decide) rfl rfl (by decide) rfl rfl wf_X7_64 rfl hnm rfl (by decide +kernel) (fun _ => rfl) (fun _ => rfl) dX7_init_90 ?_
  exact D_vret X hr hk0 dX7_init_93 rfl rfl rfl rfl
theorem g_X7_low {k a : Nat} {M : Mem} (h : a < k) : g_X7_init k M a = M a := by
  have h1 : ∀ c, ¬ a = k + c := fun c => by omega
  have h2 : ¬ a = k := by omega
  simp [g_X7_init, g_X2_init, g_X8_init, g_X0_init, g_X3_init, g_X4_init, wr, ml, flM, h1, h2, Nat.add_assoc]
theorem dX1_init_0 : decode cX1_init 0 = .ok (.aload_n 0, 1) := by decide +kernel
theorem dX1_init_1 : decode cX1_init 1 = .ok (.invokespecial 3, 3) := by decide +kernel
theorem dX1_init_4 : decode cX1_init 4 = .ok (.aload_n 0, 1) := by decide +kernel
theorem dX1_init_5 : decode cX1_init 5 = .ok (.iconst 4, 1) := by decide +kernel
theorem dX1_init_6 : decode cX1_init 6 = .ok (.anewarray 9, 3) := by decide +kernel
theorem dX1_init_9 : decode cX1_init 9 = .ok (.putfield 11, 3) := by decide +kernel
theorem dX1_init_12 : decode cX1_init 12 = .ok (.iconst 0, 1) := by decide +kernel
theorem dX1_init_13 : decode cX1_init 13 = .ok (.istore_n 1, 1) := by decide +kernel
theorem dX1_init_14 : decode cX1_init 14 = .ok (.iload_n 1, 1) := by decide +kernel
theorem dX1_init_15 : decode cX1_init 15 = .ok (.iconst 4, 1) := by decide +kernel
theorem dX1_init_16 : decode cX1_init 16 = .ok (.if_icmp .ge 22, 3) := by decide +kernel
theorem dX1_init_19 : decode cX1_init 19 = .ok (.aload_n 0, 1) := by decide +kernel
theorem dX1_init_20 : decode cX1_init 20 = .ok (.getfield 11, 3) := by decide +kernel
theorem dX1_init_23 : decode cX1_init 23 = .ok (.iload_n 1, 1) := by decide +kernel
theorem dX1_init_24 : decode cX1_init 24 = .ok (.new 9, 3) := by decide +kernel
theorem dX1_init_27 : decode cX1_init 27 = .ok (.dup, 1) := by decide +kernel
theorem dX1_init_28 : decode cX1_init 28 = .ok (.invokespecial 17, 3) := by decide +kernel
theorem dX1_init_31 : decode cX1_init 31 = .ok (.aastore, 1) := by decide +kernel
theorem dX1_init_32 : decode cX1_init 32 = .ok (.iinc 1 1, 3) := by decide +kernel
theorem dX1_init_35 : decode cX1_init 35 = .ok (.goto (-21), 3) := by decide +kernel
theorem dX1_init_38 : decode cX1_init 38 = .ok (.return_, 1) := by decide +kernel
def lx_1 : List (Nat × Nat) := [(0, 1), (4, 4), (0, 7), (1, 6), (1, 4), (0, 2), (1, 8), (1, 8), (1, 8), (1, 8), (2, 8), (1, 128), (0, 8), (1, 128), (1, 128), (0, 0), (1, 16), (1, 16), (1, 16), (1, 256), (0, 3), (1, 3), (1, 3), (0, 4), (1, 6), (1, 6), (1, 6), (1, 6), (1, 6), (1, 96), (1, 16), (0, 7), (1, 6), (1, 4), (0, 2), (1, 8), (1, 8), (1, 8), (1, 8), (2, 8), (1, 128), (0, 8), (1, 128), (1, 128), (0, 0), (1, 16), (1, 16), (1, 16), (1, 256), (0, 3), (1, 3), (1, 3), (0, 4), (1, 6), (1, 6), (1, 6), (1, 6), (1, 6), (1, 96), (1, 16), (0, 7), (1, 6), (1, 4), (0, 2), (1, 8), (1, 8), (1, 8), (1, 8), (2, 8), (1, 128), (0, 8), (1, 128), (1, 128), (0, 0), (1, 16), (1, 16), (1, 16), (1, 256), (0, 3), (1, 3), (1, 3), (0, 4), (1, 6), (1, 6), (1, 6), (1, 6), (1, 6), (1, 96), (1, 16), (0, 7), (1, 6), (1, 4), (0, 2), (1, 8), (1, 8), (1, 8), (1, 8), (2, 8), (1, 128), (0, 8), (1, 128), (1, 128), (0, 0), (1, 16), (1, 16), (1, 16), (1, 256), (0, 3), (1, 3), (1, 3), (0, 4), (1, 6), (1, 6), (1, 6), (1, 6), (1, 6), (1, 96), (1, 16)]
def g_X1_init (k : Nat) (M : Mem) : Mem :=
  (wr (g_X7_init (k + 89) (ml (wr (g_X7_init (k + 60) (ml (wr (g_X7_init (k + 31) (ml (wr (g_X7_init (k + 2) (ml (wr (ml M (k + 1) fun _ => 0) k 2 1) (k + 2) fun _ => 0)) (k + 1) 0 1) (k + 31) fun _ => 0)) (k + 1) 1 1) (k + 60) fun _ => 0)) (k + 1) 2 1) (k + 89) fun _ => 0)) (k + 1) 3 1)
set_option maxRecDepth 100000 in
set_option maxHeartbeats 4000000 in
theorem cd_X1_init (l : Launch) (D : va_G) (cas : Nat → ClassId) (h0 k : Nat) (hL : ∀ j, j < 118 → lay (k + j) = lx_1.getD j (9, 0)) (M : Mem) : zKd l D cas h0 yX1_init cX1_init 2 3 63 117 3684 [.ref (h0 + k)] (k + 1) M (k + 118) (g_X1_init k M) := by
  refine zbodyD (by decide) (Nat.le_of_ble_eq_true rfl) ?_
  intro p e s m args below meth c X hr hk0 hnm
  have hnm : meth.name = "<init>" := hnm
  have X : zY p s m args c cX1_init "ShardTrails$History" 2 D cas h0 (k + 1) := X
  refine (?_ : WD p l e (zro 3 63 117 3684) s m args below meth c D cas h0 2 (MQ below (zQd D cas h0 (k + 118) (g_X1_init k M)) args s 117 3684 (fun q => h0 ≤ q)) 0 0 0 [(0, .ref (h0 + k))] [] (k + 1) M)
  refine D_aload_n X 0 dX1_init_0 rfl rfl ?_
  refine D_obj X wm_X1_3 zo_i zo_c dX1_init_1 (by decide) (Nat.le_of_ble_eq_true rfl) ?_
  refine D_aload_n X 0 dX1_init_4 rfl rfl ?_
  refine D_iconst X dX1_init_5 ?_
  refine D_anew X (show lay (k + 1) = (4, 4) from hL 1 (by decide)) ⟨by decide, by decide⟩ rfl wc_X1_9 (by omega) dX1_init_6 ⟨Nat.le_of_ble_eq_true rfl, Nat.le_of_ble_eq_true rfl⟩ ?_
  refine D_putR X (ty := (.array (.object "ShardTrails$State"))) (k := k) (j := 2) 1 ⟨by omega, (show lay (k) = (0, 1) from hL 0 (by decide))⟩ rfl inX1 tyX1_ok nmX1 (by decide) rfl rfl (by decide) rfl rfl wf_X1_11 rfl hnm rfl (by decide +kernel) (fun _ => rfl) (fun _ => rfl) dX1_init_9 ?_
  refine D_iconst X dX1_init_12 ?_
  refine D_istore_n X (lv' := [(1, .int (zI 0)), (0, .ref (h0 + k))]) dX1_init_13 rfl (by decide) rfl ?_
  refine D_iload_n X 0 dX1_init_14 rfl rfl ?_
  refine D_iconst X dX1_init_15 ?_
  refine D_icmp_geF X 38 (by decide) (by decide) dX1_init_16 (by decide) ?_
  refine D_aload_n X 1 dX1_init_19 rfl rfl ?_
  refine D_getR X (k := k) (j := 2) 1 (k + 1) ⟨by omega, (show lay (k) = (0, 1) from hL 0 (by decide))⟩ (by simp [g_X7_low, wr, ml, flM, up, Nat.add_assoc]) rfl inX1 (by decide) rfl rfl (by decide) rfl rfl wf_X1_11 dX1_init_20 ?_
  refine D_iload_n X 0 dX1_init_23 rfl rfl ?_
  refine D_new X tyX7 (show lay (k + 2) = (0, 7) from hL 2 (by decide)) rfl rfl inX7 tyX7_ok dv_7 wc_X1_9 wi_7 wz_7 (by omega) dX1_init_24 ⟨Nat.le_of_ble_eq_true rfl, Nat.le_of_ble_eq_true rfl⟩ ?_
  refine D_dup X dX1_init_27 rfl ?_
  refine D_callIN X (cd_X7_init l D cas h0 (k + 2) (fun j hj => by have h9 := hL (2 + j) (by omega); rw [← Nat.add_assoc] at h9; exact h9.trans ((by decide : ∀ j, j < 29 → lx_1.getD (2 + j) (9, 0) = lx_7.getD j (9, 0)) j hj)) _) zyi_X7_init wn_X1_17 (by omega) ⟨Nat.le_of_ble_eq_true rfl, Nat.le_of_ble_eq_true rfl⟩ ⟨Nat.le_of_ble_eq_true rfl, Nat.le_of_ble_eq_true rfl⟩ (Nat.le_of_ble_eq_true rfl) dX1_init_28 ?_
  refine D_aast X (k := k + 1) (a := k + 2) 0 ⟨by omega, (show lay (k + 1) = (4, 4) from hL 1 (by decide))⟩ (by decide) rfl rfl (by omega) ⟨by omega, (show lay (k + 2) = (0, 7) from hL 2 (by decide))⟩ dX1_init_31 ?_
  refine D_iinc X (lv' := [(1, .int (zI 1)), (0, .ref (h0 + k))]) 0 dX1_init_32 rfl (by decide) (by decide) rfl ?_
  refine D_goto X 14 dX1_init_35 (by decide) ?_
  refine D_iload_n X 0 dX1_init_14 rfl rfl ?_
  refine D_iconst X dX1_init_15 ?_
  refine D_icmp_geF X 38 (by decide) (by decide) dX1_init_16 (by decide) ?_
  refine D_aload_n X 1 dX1_init_19 rfl rfl ?_
  refine D_getR X (k := k) (j := 2) 1 (k + 1) ⟨by omega, (show lay (k) = (0, 1) from hL 0 (by decide))⟩ (by simp [g_X7_low, wr, ml, flM, up, Nat.add_assoc]) rfl inX1 (by decide) rfl rfl (by decide) rfl rfl wf_X1_11 dX1_init_20 ?_
  refine D_iload_n X 0 dX1_init_23 rfl rfl ?_
  refine D_new X tyX7 (show lay (k + 31) = (0, 7) from hL 31 (by decide)) rfl rfl inX7 tyX7_ok dv_7 wc_X1_9 wi_7 wz_7 (by omega) dX1_init_24 ⟨Nat.le_of_ble_eq_true rfl, Nat.le_of_ble_eq_true rfl⟩ ?_
  refine D_dup X dX1_init_27 rfl ?_
  refine D_callIN X (cd_X7_init l D cas h0 (k + 31) (fun j hj => by have h9 := hL (31 + j) (by omega); rw [← Nat.add_assoc] at h9; exact h9.trans ((by decide : ∀ j, j < 29 → lx_1.getD (31 + j) (9, 0) = lx_7.getD j (9, 0)) j hj)) _) zyi_X7_init wn_X1_17 (by omega) ⟨Nat.le_of_ble_eq_true rfl, Nat.le_of_ble_eq_true rfl⟩ ⟨Nat.le_of_ble_eq_true rfl, Nat.le_of_ble_eq_true rfl⟩ (Nat.le_of_ble_eq_true rfl) dX1_init_28 ?_
  refine D_aast X (k := k + 1) (a := k + 31) 1 ⟨by omega, (show lay (k + 1) = (4, 4) from hL 1 (by decide))⟩ (by decide) rfl rfl (by omega) ⟨by omega, (show lay (k + 31) = (0, 7) from hL 31 (by decide))⟩ dX1_init_31 ?_
  refine D_iinc X (lv' := [(1, .int (zI 2)), (0, .ref (h0 + k))]) 0 dX1_init_32 rfl (by decide) (by decide) rfl ?_
  refine D_goto X 14 dX1_init_35 (by decide) ?_
  refine D_iload_n X 0 dX1_init_14 rfl rfl ?_
  refine D_iconst X dX1_init_15 ?_
  refine D_icmp_geF X 38 (by decide) (by decide) dX1_init_16 (by decide) ?_
  refine D_aload_n X 1 dX1_init_19 rfl rfl ?_
  refine D_getR X (k := k) (j := 2) 1 (k + 1) ⟨by omega, (show lay (k) = (0, 1) from hL 0 (by decide))⟩ (by simp [g_X7_low, wr, ml, flM, up, Nat.add_assoc]) rfl inX1 (by decide) rfl rfl (by decide) rfl rfl wf_X1_11 dX1_init_20 ?_
  refine D_iload_n X 0 dX1_init_23 rfl rfl ?_
  refine D_new X tyX7 (show lay (k + 60) = (0, 7) from hL 60 (by decide)) rfl rfl inX7 tyX7_ok dv_7 wc_X1_9 wi_7 wz_7 (by omega) dX1_init_24 ⟨Nat.le_of_ble_eq_true rfl, Nat.le_of_ble_eq_true rfl⟩ ?_
  refine D_dup X dX1_init_27 rfl ?_
  refine D_callIN X (cd_X7_init l D cas h0 (k + 60) (fun j hj => by have h9 := hL (60 + j) (by omega); rw [← Nat.add_assoc] at h9; exact h9.trans ((by decide : ∀ j, j < 29 → lx_1.getD (60 + j) (9, 0) = lx_7.getD j (9, 0)) j hj)) _) zyi_X7_init wn_X1_17 (by omega) ⟨Nat.le_of_ble_eq_true rfl, Nat.le_of_ble_eq_true rfl⟩ ⟨Nat.le_of_ble_eq_true rfl, Nat.le_of_ble_eq_true rfl⟩ (Nat.le_of_ble_eq_true rfl) dX1_init_28 ?_
  refine D_aast X (k := k + 1) (a := k + 60) 2 ⟨by omega, (show lay (k + 1) = (4, 4) from hL 1 (by decide))⟩ (by decide) rfl rfl (by omega) ⟨by omega, (show lay (k + 60) = (0, 7) from hL 60 (by decide))⟩ dX1_init_31 ?_
  refine D_iinc X (lv' := [(1, .int (zI 3)), (0, .ref (h0 + k))]) 0 dX1_init_32 rfl (by decide) (by decide) rfl ?_
  refine D_goto X 14 dX1_init_35 (by decide) ?_
  refine D_iload_n X 0 dX1_init_14 rfl rfl ?_
  refine D_iconst X dX1_init_15 ?_
  refine D_icmp_geF X 38 (by decide) (by decide) dX1_init_16 (by decide) ?_
  refine D_aload_n X 1 dX1_init_19 rfl rfl ?_
  refine D_getR X (k := k) (j := 2) 1 (k + 1) ⟨by omega, (show lay (k) = (0, 1) from hL 0 (by decide))⟩ (by simp [g_X7_low, wr, ml, flM, up, Nat.add_assoc]) rfl inX1 (by decide) rfl rfl (by decide) rfl rfl wf_X1_11 dX1_init_20 ?_
  refine D_iload_n X 0 dX1_init_23 rfl rfl ?_
  refine D_new X tyX7 (show lay (k + 89) = (0, 7) from hL 89 (by decide)) rfl rfl inX7 tyX7_ok dv_7 wc_X1_9 wi_7 wz_7 (by omega) dX1_init_24 ⟨Nat.le_of_ble_eq_true rfl, Nat.le_of_ble_eq_true rfl⟩ ?_
  refine D_dup X dX1_init_27 rfl ?_
  refine D_callIN X (cd_X7_init l D cas h0 (k + 89) (fun j hj => by have h9 := hL (89 + j) (by omega); rw [← Nat.add_assoc] at h9; exact h9.trans ((by decide : ∀ j, j < 29 → lx_1.getD (89 + j) (9, 0) = lx_7.getD j (9, 0)) j hj)) _) zyi_X7_init wn_X1_17 (by omega) ⟨Nat.le_of_ble_eq_true rfl, Nat.le_of_ble_eq_true rfl⟩ ⟨Nat.le_of_ble_eq_true rfl, Nat.le_of_ble_eq_true rfl⟩ (Nat.le_of_ble_eq_true rfl) dX1_init_28 ?_
  refine D_aast X (k := k + 1) (a := k + 89) 3 ⟨by omega, (show lay (k + 1) = (4, 4) from hL 1 (by decide))⟩ (by decide) rfl rfl (by omega) ⟨by omega, (show lay (k + 89) = (0, 7) from hL 89 (by decide))⟩ dX1_init_31 ?_
  refine D_iinc X (lv' := [(1, .int (zI 4)), (0, .ref (h0 + k))]) 0 dX1_init_32 rfl (by decide) (by decide) rfl ?_
  refine D_goto X 14 dX1_init_35 (by decide) ?_
  refine D_iload_n X 0 dX1_init_14 rfl rfl ?_
  refine D_iconst X dX1_init_15 ?_
  refine D_icmp_geT X 38 (by decide) (by decide) dX1_init_16 (by decide) ?_
  exact D_vret X hr hk0 dX1_init_38 rfl rfl rfl rfl
theorem dX6_init_0 : decode cX6_init 0 = .ok (.aload_n 0, 1) := by decide +kernel
theorem dX6_init_1 : decode cX6_init 1 = .ok (.invokespecial 3, 3) := by decide +kernel
theorem dX6_init_4 : decode cX6_init 4 = .ok (.aload_n 0, 1) := by decide +kernel
theorem dX6_init_5 : decode cX6_init 5 = .ok (.sipush 137, 3) := by decide +kernel
theorem dX6_init_8 : decode cX6_init 8 = .ok (.newarray .int, 2) := by decide +kernel
theorem dX6_init_10 : decode cX6_init 10 = .ok (.putfield 9, 3) := by decide +kernel
theorem dX6_init_13 : decode cX6_init 13 = .ok (.aload_n 0, 1) := by decide +kernel
theorem dX6_init_14 : decode cX6_init 14 = .ok (.bipush 8, 2) := by decide +kernel
theorem dX6_init_16 : decode cX6_init 16 = .ok (.newarray .boolean, 2) := by decide +kernel
theorem dX6_init_18 : decode cX6_init 18 = .ok (.putfield 15, 3) := by decide +kernel
theorem dX6_init_21 : decode cX6_init 21 = .ok (.aload_n 0, 1) := by decide +kernel
theorem dX6_init_22 : decode cX6_init 22 = .ok (.bipush 8, 2) := by decide +kernel
theorem dX6_init_24 : decode cX6_init 24 = .ok (.newarray .boolean, 2) := by decide +kernel
theorem dX6_init_26 : decode cX6_init 26 = .ok (.putfield 19, 3) := by decide +kernel
theorem dX6_init_29 : decode cX6_init 29 = .ok (.return_, 1) := by decide +kernel
def lx_6 : List (Nat × Nat) := [(0, 6), (1, 137), (2, 8), (2, 8)]
def g_X6_init (k : Nat) (M : Mem) : Mem :=
  (wr (ml (wr (ml (wr (ml M (k + 1) fun _ => 0) k 6 1) (k + 2) fun _ => 0) k 7 1) (k + 3) fun _ => 0) k 8 1)
set_option maxRecDepth 100000 in
set_option maxHeartbeats 4000000 in
theorem cd_X6_init (l : Launch) (D : va_G) (cas : Nat → ClassId) (h0 k : Nat) (hL : ∀ j, j < 4 → lay (k + j) = lx_6.getD j (9, 0)) (M : Mem) : zKd l D cas h0 yX6_init cX6_init 1 1 20 3 153 [.ref (h0 + k)] (k + 1) M (k + 4) (g_X6_init k M) := by
  refine zbodyD (by decide) (Nat.le_of_ble_eq_true rfl) ?_
  intro p e s m args below meth c X hr hk0 hnm
  have hnm : meth.name = "<init>" := hnm
  have X : zY p s m args c cX6_init "ShardTrails$Route" 1 D cas h0 (k + 1) := X
  refine (?_ : WD p l e (zro 1 20 3 153) s m args below meth c D cas h0 1 (MQ below (zQd D cas h0 (k + 4) (g_X6_init k M)) args s 3 153 (fun q => h0 ≤ q)) 0 0 0 [(0, .ref (h0 + k))] [] (k + 1) M)
  refine D_aload_n X 0 dX6_init_0 rfl rfl ?_
  refine D_obj X wm_X6_3 zo_i zo_c dX6_init_1 (by decide) (Nat.le_of_ble_eq_true rfl) ?_
  refine D_aload_n X 0 dX6_init_4 rfl rfl ?_
  refine D_sipush X dX6_init_5 (by decide +kernel) ?_
  refine D_newa X (atype := .int) (t := 0) (show lay (k + 1) = (1, 137) from hL 1 (by decide)) (by decide) rfl rfl (fun C h => by cases h) rfl wa_int ⟨by decide, by decide⟩ (by decide) (by decide) (by omega) dX6_init_8 ⟨Nat.le_of_ble_eq_true rfl, Nat.le_of_ble_eq_true rfl⟩ ?_
  refine D_putR X (ty := (.array .int)) (k := k) (j := 6) 1 ⟨by omega, (show lay (k) = (0, 6) from hL 0 (by decide))⟩ rfl inX6 tyX6_ok nmX6 (by decide) rfl rfl (by decide) rfl rfl wf_X6_9 rfl hnm rfl (by decide +kernel) (fun _ => rfl) (fun _ => rfl) dX6_init_10 ?_
  refine D_aload_n X 0 dX6_init_13 rfl rfl ?_
  refine D_bipush X dX6_init_14 (by decide +kernel) ?_
  refine D_newa X (atype := .boolean) (t := 1) (show lay (k + 2) = (2, 8) from hL 2 (by decide)) (by decide) rfl rfl (fun C h => by cases h) rfl wa_boolean ⟨by decide, by decide⟩ (by decide) (by decide) (by omega) dX6_init_16 ⟨Nat.le_of_ble_eq_true rfl, Nat.le_of_ble_eq_true rfl⟩ ?_
  refine D_putR X (ty := (.array .boolean)) (k := k) (j := 7) 2 ⟨by omega, (show lay (k) = (0, 6) from hL 0 (by decide))⟩ rfl inX6 tyX6_ok nmX6 (by decide) rfl rfl (by decide) rfl rfl wf_X6_15 rfl hnm rfl (by decide +kernel) (fun _ => rfl) (fun _ => rfl) dX6_init_18 ?_
  refine D_aload_n X 0 dX6_init_21 rfl rfl ?_
  refine D_bipush X dX6_init_22 (by decide +kernel) ?_
  refine D_newa X (atype := .boolean) (t := 1) (show lay (k + 3) = (2, 8) from hL 3 (by decide)) (by decide) rfl rfl (fun C h => by cases h) rfl wa_boolean ⟨by decide, by decide⟩ (by decide) (by decide) (by omega) dX6_init_24 ⟨Nat.le_of_ble_eq_true rfl, Nat.le_of_ble_eq_true rfl⟩ ?_
  refine D_putR X (ty := (.array .boolean)) (k := k) (j := 8) 3 ⟨by omega, (show lay (k) = (0, 6) from hL 0 (by decide))⟩ rfl inX6 tyX6_ok nmX6 (by decide) rfl rfl (by decide) rfl rfl wf_X6_19 rfl hnm rfl (by decide +kernel) (fun _ => rfl) (fun _ => rfl) dX6_init_26 ?_
  exact D_vret X hr hk0 dX6_init_29 rfl rfl rfl rfl
theorem dX5_init_0 : decode cX5_init 0 = .ok (.aload_n 0, 1) := by decide +kernel
theorem dX5_init_1 : decode cX5_init 1 = .ok (.invokespecial 3, 3) := by decide +kernel
theorem dX5_init_4 : decode cX5_init 4 = .ok (.aload_n 0, 1) := by decide +kernel
theorem dX5_init_5 : decode cX5_init 5 = .ok (.bipush 16, 2) := by decide +kernel
theorem dX5_init_7 : decode cX5_init 7 = .ok (.newarray .int, 2) := by decide +kernel
theorem dX5_init_9 : decode cX5_init 9 = .ok (.putfield 9, 3) := by decide +kernel
theorem dX5_init_12 : decode cX5_init 12 = .ok (.aload_n 0, 1) := by decide +kernel
theorem dX5_init_13 : decode cX5_init 13 = .ok (.bipush 16, 2) := by decide +kernel
theorem dX5_init_15 : decode cX5_init 15 = .ok (.newarray .int, 2) := by decide +kernel
theorem dX5_init_17 : decode cX5_init 17 = .ok (.putfield 15, 3) := by decide +kernel
theorem dX5_init_20 : decode cX5_init 20 = .ok (.aload_n 0, 1) := by decide +kernel
theorem dX5_init_21 : decode cX5_init 21 = .ok (.bipush 16, 2) := by decide +kernel
theorem dX5_init_23 : decode cX5_init 23 = .ok (.newarray .int, 2) := by decide +kernel
theorem dX5_init_25 : decode cX5_init 25 = .ok (.putfield 18, 3) := by decide +kernel
theorem dX5_init_28 : decode cX5_init 28 = .ok (.aload_n 0, 1) := by decide +kernel
theorem dX5_init_29 : decode cX5_init 29 = .ok (.bipush 60, 2) := by decide +kernel
theorem dX5_init_31 : decode cX5_init 31 = .ok (.newarray .char, 2) := by decide +kernel
theorem dX5_init_33 : decode cX5_init 33 = .ok (.putfield 21, 3) := by decide +kernel
theorem dX5_init_36 : decode cX5_init 36 = .ok (.return_, 1) := by decide +kernel
def lx_5 : List (Nat × Nat) := [(0, 5), (1, 16), (1, 16), (1, 16), (3, 60)]
def g_X5_init (k : Nat) (M : Mem) : Mem :=
  (wr (ml (wr (ml (wr (ml (wr (ml M (k + 1) fun _ => 0) k 2 1) (k + 2) fun _ => 0) k 3 1) (k + 3) fun _ => 0) k 4 1) (k + 4) fun _ => 0) k 5 1)
set_option maxRecDepth 100000 in
set_option maxHeartbeats 4000000 in
theorem cd_X5_init (l : Launch) (D : va_G) (cas : Nat → ClassId) (h0 k : Nat) (hL : ∀ j, j < 5 → lay (k + j) = lx_5.getD j (9, 0)) (M : Mem) : zKd l D cas h0 yX5_init cX5_init 1 1 20 4 108 [.ref (h0 + k)] (k + 1) M (k + 5) (g_X5_init k M) := by
  refine zbodyD (by decide) (Nat.le_of_ble_eq_true rfl) ?_
  intro p e s m args below meth c X hr hk0 hnm
  have hnm : meth.name = "<init>" := hnm
  have X : zY p s m args c cX5_init "ShardTrails$RequestText" 1 D cas h0 (k + 1) := X
  refine (?_ : WD p l e (zro 1 20 4 108) s m args below meth c D cas h0 1 (MQ below (zQd D cas h0 (k + 5) (g_X5_init k M)) args s 4 108 (fun q => h0 ≤ q)) 0 0 0 [(0, .ref (h0 + k))] [] (k + 1) M)
  refine D_aload_n X 0 dX5_init_0 rfl rfl ?_
  refine D_obj X wm_X5_3 zo_i zo_c dX5_init_1 (by decide) (Nat.le_of_ble_eq_true rfl) ?_
  refine D_aload_n X 0 dX5_init_4 rfl rfl ?_
  refine D_bipush X dX5_init_5 (by decide +kernel) ?_
  refine D_newa X (atype := .int) (t := 0) (show lay (k + 1) = (1, 16) from hL 1 (by decide)) (by decide) rfl rfl (fun C h => by cases h) rfl wa_int ⟨by decide, by decide⟩ (by decide) (by decide) (by omega) dX5_init_7 ⟨Nat.le_of_ble_eq_true rfl, Nat.le_of_ble_eq_true rfl⟩ ?_
  refine D_putR X (ty := (.array .int)) (k := k) (j := 2) 1 ⟨by omega, (show lay (k) = (0, 5) from hL 0 (by decide))⟩ rfl inX5 tyX5_ok nmX5 (by decide) rfl rfl (by decide) rfl rfl wf_X5_9 rfl hnm rfl (by decide +kernel) (fun _ => rfl) (fun _ => rfl) dX5_init_9 ?_
  refine D_aload_n X 0 dX5_init_12 rfl rfl ?_
  refine D_bipush X dX5_init_13 (by decide +kernel) ?_
  refine D_newa X (atype := .int) (t := 0) (show lay (k + 2) = (1, 16) from hL 2 (by decide)) (by decide) rfl rfl (fun C h => by cases h) rfl wa_int ⟨by decide, by decide⟩ (by decide) (by decide) (by omega) dX5_init_15 ⟨Nat.le_of_ble_eq_true rfl, Nat.le_of_ble_eq_true rfl⟩ ?_
  refine D_putR X (ty := (.array .int)) (k := k) (j := 3) 2 ⟨by omega, (show lay (k) = (0, 5) from hL 0 (by decide))⟩ rfl inX5 tyX5_ok nmX5 (by decide) rfl rfl (by decide) rfl rfl wf_X5_15 rfl hnm rfl (by decide +kernel) (fun _ => rfl) (fun _ => rfl) dX5_init_17 ?_
  refine D_aload_n X 0 dX5_init_20 rfl rfl ?_
  refine D_bipush X dX5_init_21 (by decide +kernel) ?_
  refine D_newa X (atype := .int) (t := 0) (show lay (k + 3) = (1, 16) from hL 3 (by decide)) (by decide) rfl rfl (fun C h => by cases h) rfl wa_int ⟨by decide, by decide⟩ (by decide) (by decide) (by omega) dX5_init_23 ⟨Nat.le_of_ble_eq_true rfl, Nat.le_of_ble_eq_true rfl⟩ ?_
  refine D_putR X (ty := (.array .int)) (k := k) (j := 4) 3 ⟨by omega, (show lay (k) = (0, 5) from hL 0 (by decide))⟩ rfl inX5 tyX5_ok nmX5 (by decide) rfl rfl (by decide) rfl rfl wf_X5_18 rfl hnm rfl (by decide +kernel) (fun _ => rfl) (fun _ => rfl) dX5_init_25 ?_
  refine D_aload_n X 0 dX5_init_28 rfl rfl ?_
  refine D_bipush X dX5_init_29 (by decide +kernel) ?_
  refine D_newa X (atype := .char) (t := 2) (show lay (k + 4) = (3, 60) from hL 4 (by decide)) (by decide) rfl rfl (fun C h => by cases h) rfl wa_char ⟨by decide, by decide⟩ (by decide) (by decide) (by omega) dX5_init_31 ⟨Nat.le_of_ble_eq_true rfl, Nat.le_of_ble_eq_true rfl⟩ ?_
  refine D_putR X (ty := (.array .char)) (k := k) (j := 5) 4 ⟨by omega, (show lay (k) = (0, 5) from hL 0 (by decide))⟩ rfl inX5 tyX5_ok nmX5 (by decide) rfl rfl (by decide) rfl rfl wf_X5_21 rfl hnm rfl (by decide +kernel) (fun _ => rfl) (fun _ => rfl) dX5_init_33 ?_
  exact D_vret X hr hk0 dX5_init_36 rfl rfl rfl rfl
theorem dX9_init_0 : decode cX9_init 0 = .ok (.aload_n 0, 1) := by decide +kernel
theorem dX9_init_1 : decode cX9_init 1 = .ok (.invokespecial 3, 3) := by decide +kernel
theorem dX9_init_4 : decode cX9_init 4 = .ok (.aload_n 0, 1) := by decide +kernel
theorem dX9_init_5 : decode cX9_init 5 = .ok (.new 9, 3) := by decide +kernel
theorem dX9_init_8 : decode cX9_init 8 = .ok (.dup, 1) := by decide +kernel
theorem dX9_init_9 : decode cX9_init 9 = .ok (.invokespecial 11, 3) := by decide +kernel
theorem dX9_init_12 : decode cX9_init 12 = .ok (.putfield 12, 3) := by decide +kernel
theorem dX9_init_15 : decode cX9_init 15 = .ok (.aload_n 0, 1) := by decide +kernel
theorem dX9_init_16 : decode cX9_init 16 = .ok (.new 9, 3) := by decide +kernel
theorem dX9_init_19 : decode cX9_init 19 = .ok (.dup, 1) := by decide +kernel
theorem dX9_init_20 : decode cX9_init 20 = .ok (.invokespecial 11, 3) := by decide +kernel
theorem dX9_init_23 : decode cX9_init 23 = .ok (.putfield 16, 3) := by decide +kernel
theorem dX9_init_26 : decode cX9_init 26 = .ok (.aload_n 0, 1) := by decide +kernel
theorem dX9_init_27 : decode cX9_init 27 = .ok (.new 9, 3) := by decide +kernel
theorem dX9_init_30 : decode cX9_init 30 = .ok (.dup, 1) := by decide +kernel
theorem dX9_init_31 : decode cX9_init 31 = .ok (.invokespecial 11, 3) := by decide +kernel
theorem dX9_init_34 : decode cX9_init 34 = .ok (.putfield 19, 3) := by decide +kernel
theorem dX9_init_37 : decode cX9_init 37 = .ok (.aload_n 0, 1) := by decide +kernel
theorem dX9_init_38 : decode cX9_init 38 = .ok (.new 22, 3) := by decide +kernel
theorem dX9_init_41 : decode cX9_init 41 = .ok (.dup, 1) := by decide +kernel
theorem dX9_init_42 : decode cX9_init 42 = .ok (.invokespecial 24, 3) := by decide +kernel
theorem dX9_init_45 : decode cX9_init 45 = .ok (.putfield 25, 3) := by decide +kernel
theorem dX9_init_48 : decode cX9_init 48 = .ok (.aload_n 0, 1) := by decide +kernel
theorem dX9_init_49 : decode cX9_init 49 = .ok (.new 29, 3) := by decide +kernel
theorem dX9_init_52 : decode cX9_init 52 = .ok (.dup, 1) := by decide +kernel
theorem dX9_init_53 : decode cX9_init 53 = .ok (.invokespecial 31, 3) := by decide +kernel
theorem dX9_init_56 : decode cX9_init 56 = .ok (.putfield 32, 3) := by decide +kernel
theorem dX9_init_59 : decode cX9_init 59 = .ok (.aload_n 0, 1) := by decide +kernel
theorem dX9_init_60 : decode cX9_init 60 = .ok (.new 36, 3) := by decide +kernel
theorem dX9_init_63 : decode cX9_init 63 = .ok (.dup, 1) := by decide +kernel
theorem dX9_init_64 : decode cX9_init 64 = .ok (.invokespecial 38, 3) := by decide +kernel
theorem dX9_init_67 : decode cX9_init 67 = .ok (.putfield 39, 3) := by decide +kernel
theorem dX9_init_70 : decode cX9_init 70 = .ok (.return_, 1) := by decide +kernel
def lx_9 : List (Nat × Nat) := [(0, 9), (0, 7), (1, 6), (1, 4), (0, 2), (1, 8), (1, 8), (1, 8), (1, 8), (2, 8), (1, 128), (0, 8), (1, 128), (1, 128), (0, 0), (1, 16), (1, 16), (1, 16), (1, 256), (0, 3), (1, 3), (1, 3), (0, 4), (1, 6), (1, 6), (1, 6), (1, 6), (1, 6), (1, 96), (1, 16), (0, 7), (1, 6), (1, 4), (0, 2), (1, 8), (1, 8), (1, 8), (1, 8), (2, 8), (1, 128), (0, 8), (1, 128), (1, 128), (0, 0), (1, 16), (1, 16), (1, 16), (1, 256), (0, 3), (1, 3), (1, 3), (0, 4), (1, 6), (1, 6), (1, 6), (1, 6), (1, 6), (1, 96), (1, 16), (0, 7), (1, 6), (1, 4), (0, 2), (1, 8), (1, 8), (1, 8), (1, 8), (2, 8), (1, 128), (0, 8), (1, 128), (1, 128), (0, 0), (1, 16), (1, 16), (1, 16), (1, 256), (0, 3), (1, 3), (1, 3), (0, 4), (1, 6), (1, 6), (1, 6), (1, 6), (1, 6), (1, 96), (1, 16), (0, 1), (4, 4), (0, 7), (1, 6), (1, 4), (0, 2), (1, 8), (1, 8), (1, 8), (1, 8), (2, 8), (1, 128), (0, 8), (1, 128), (1, 128), (0, 0), (1, 16), (1, 16), (1, 16), (1, 256), (0, 3), (1, 3), (1, 3), (0, 4), (1, 6), (1, 6), (1, 6), (1, 6), (1, 6), (1, 96), (1, 16), (0, 7), (1, 6), (1, 4), (0, 2), (1, 8), (1, 8), (1, 8), (1, 8), (2, 8), (1, 128), (0, 8), (1, 128), (1, 128), (0, 0), (1, 16), (1, 16), (1, 16), (1, 256), (0, 3), (1, 3), (1, 3), (0, 4), (1, 6), (1, 6), (1, 6), (1, 6), (1, 6), (1, 96), (1, 16), (0, 7), (1, 6), (1, 4), (0, 2), (1, 8), (1, 8), (1, 8), (1, 8), (2, 8), (1, 128), (0, 8), (1, 128), (1, 128), (0, 0), (1, 16), (1, 16), (1, 16), (1, 256), (0, 3), (1, 3), (1, 3), (0, 4), (1, 6), (1, 6), (1, 6), (1, 6), (1, 6), (1, 96), (1, 16), (0, 7), (1, 6), (1, 4), (0, 2), (1, 8), (1, 8), (1, 8), (1, 8), (2, 8), (1, 128), (0, 8), (1, 128), (1, 128), (0, 0), (1, 16), (1, 16), (1, 16), (1, 256), (0, 3), (1, 3), (1, 3), (0, 4), (1, 6), (1, 6), (1, 6), (1, 6), (1, 6), (1, 96), (1, 16), (0, 6), (1, 137), (2, 8), (2, 8), (0, 5), (1, 16), (1, 16), (1, 16), (3, 60)]
def g_X9_init (k : Nat) (M : Mem) : Mem :=
  (wr (g_X5_init (k + 210) (ml (wr (g_X6_init (k + 206) (ml (wr (g_X1_init (k + 88) (ml (wr (g_X7_init (k + 59) (ml (wr (g_X7_init (k + 30) (ml (wr (g_X7_init (k + 1) (ml M (k + 1) fun _ => 0)) k 0 1) (k + 30) fun _ => 0)) k 1 1) (k + 59) fun _ => 0)) k 2 1) (k + 88) fun _ => 0)) k 3 1) (k + 206) fun _ => 0)) k 4 1) (k + 210) fun _ => 0)) k 5 1)
set_option maxRecDepth 100000 in
set_option maxHeartbeats 4000000 in
theorem cd_X9_init (l : Launch) (D : va_G) (cas : Nat → ClassId) (h0 k : Nat) (hL : ∀ j, j < 215 → lay (k + j) = lx_9.getD j (9, 0)) (M : Mem) : zKd l D cas h0 yX9_init cX9_init 1 4 84 214 6724 [.ref (h0 + k)] (k + 1) M (k + 215) (g_X9_init k M) := by
  refine zbodyD (by decide) (Nat.le_of_ble_eq_true rfl) ?_
  intro p e s m args below meth c X hr hk0 hnm
  have hnm : meth.name = "<init>" := hnm
  have X : zY p s m args c cX9_init "ShardTrails" 1 D cas h0 (k + 1) := X
  refine (?_ : WD p l e (zro 4 84 214 6724) s m args below meth c D cas h0 1 (MQ below (zQd D cas h0 (k + 215) (g_X9_init k M)) args s 214 6724 (fun q => h0 ≤ q)) 0 0 0 [(0, .ref (h0 + k))] [] (k + 1) M)
  refine D_aload_n X 0 dX9_init_0 rfl rfl ?_
  refine D_obj X wm_X9_3 zo_i zo_c dX9_init_1 (by decide) (Nat.le_of_ble_eq_true rfl) ?_
  refine D_aload_n X 0 dX9_init_4 rfl rfl ?_
  refine D_new X tyX7 (show lay (k + 1) = (0, 7) from hL 1 (by decide)) rfl rfl inX7 tyX7_ok dv_7 wc_X9_9 wi_7 wz_7 (by omega) dX9_init_5 ⟨Nat.le_of_ble_eq_true rfl, Nat.le_of_ble_eq_true rfl⟩ ?_
  refine D_dup X dX9_init_8 rfl ?_
  refine D_callIN X (cd_X7_init l D cas h0 (k + 1) (fun j hj => by have h9 := hL (1 + j) (by omega); rw [← Nat.add_assoc] at h9; exact h9.trans ((by decide : ∀ j, j < 29 → lx_9.getD (1 + j) (9, 0) = lx_7.getD j (9, 0)) j hj)) _) zyi_X7_init wn_X9_11 (by omega) ⟨Nat.le_of_ble_eq_true rfl, Nat.le_of_ble_eq_true rfl⟩ ⟨Nat.le_of_ble_eq_true rfl, Nat.le_of_ble_eq_true rfl⟩ (Nat.le_of_ble_eq_true rfl) dX9_init_9 ?_
  refine D_putR X (ty := (.object "ShardTrails$State")) (k := k) (j := 0) 1 ⟨by omega, (show lay (k) = (0, 9) from hL 0 (by decide))⟩ rfl inX9 tyX9_ok nmX9 (by decide) rfl rfl (by decide) rfl rfl wf_X9_12 rfl hnm rfl (by decide +kernel) (fun _ => rfl) (fun _ => rfl) dX9_init_12 ?_
  refine D_aload_n X 0 dX9_init_15 rfl rfl ?_
  refine D_new X tyX7 (show lay (k + 30) = (0, 7) from hL 30 (by decide)) rfl rfl inX7 tyX7_ok dv_7 wc_X9_9 wi_7 wz_7 (by omega) dX9_init_16 ⟨Nat.le_of_ble_eq_true rfl, Nat.le_of_ble_eq_true rfl⟩ ?_
  refine D_dup X dX9_init_19 rfl ?_
  refine D_callIN X (cd_X7_init l D cas h0 (k + 30) (fun j hj => by have h9 := hL (30 + j) (by omega); rw [← Nat.add_assoc] at h9; exact h9.trans ((by decide : ∀ j, j < 29 → lx_9.getD (30 + j) (9, 0) = lx_7.getD j (9, 0)) j hj)) _) zyi_X7_init wn_X9_11 (by omega) ⟨Nat.le_of_ble_eq_true rfl, Nat.le_of_ble_eq_true rfl⟩ ⟨Nat.le_of_ble_eq_true rfl, Nat.le_of_ble_eq_true rfl⟩ (Nat.le_of_ble_eq_true rfl) dX9_init_20 ?_
  refine D_putR X (ty := (.object "ShardTrails$State")) (k := k) (j := 1) 30 ⟨by omega, (show lay (k) = (0, 9) from hL 0 (by decide))⟩ rfl inX9 tyX9_ok nmX9 (by decide) rfl rfl (by decide) rfl rfl wf_X9_16 rfl hnm rfl (by decide +kernel) (fun _ => rfl) (fun _ => rfl) dX9_init_23 ?_
  refine D_aload_n X 0 dX9_init_26 rfl rfl ?_
  refine D_new X tyX7 (show lay (k + 59) = (0, 7) from hL 59 (by decide)) rfl rfl inX7 tyX7_ok dv_7 wc_X9_9 wi_7 wz_7 (by omega) dX9_init_27 ⟨Nat.le_of_ble_eq_true rfl, Nat.le_of_ble_eq_true rfl⟩ ?_
  refine D_dup X dX9_init_30 rfl ?_
  refine D_callIN X (cd_X7_init l D cas h0 (k + 59) (fun j hj => by have h9 := hL (59 + j) (by omega); rw [← Nat.add_assoc] at h9; exact h9.trans ((by decide : ∀ j, j < 29 → lx_9.getD (59 + j) (9, 0) = lx_7.getD j (9, 0)) j hj)) _) zyi_X7_init wn_X9_11 (by omega) ⟨Nat.le_of_ble_eq_true rfl, Nat.le_of_ble_eq_true rfl⟩ ⟨Nat.le_of_ble_eq_true rfl, Nat.le_of_ble_eq_true rfl⟩ (Nat.le_of_ble_eq_true rfl) dX9_init_31 ?_
  refine D_putR X (ty := (.object "ShardTrails$State")) (k := k) (j := 2) 59 ⟨by omega, (show lay (k) = (0, 9) from hL 0 (by decide))⟩ rfl inX9 tyX9_ok nmX9 (by decide) rfl rfl (by decide) rfl rfl wf_X9_19 rfl hnm rfl (by decide +kernel) (fun _ => rfl) (fun _ => rfl) dX9_init_34 ?_
  refine D_aload_n X 0 dX9_init_37 rfl rfl ?_
  refine D_new X tyX1 (show lay (k + 88) = (0, 1) from hL 88 (by decide)) rfl rfl inX1 tyX1_ok dv_1 wc_X9_22 wi_1 wz_1 (by omega) dX9_init_38 ⟨Nat.le_of_ble_eq_true rfl, Nat.le_of_ble_eq_true rfl⟩ ?_
  refine D_dup X dX9_init_41 rfl ?_
  refine D_callI X (cd_X1_init l D cas h0 (k + 88) (fun j hj => by have h9 := hL (88 + j) (by omega); rw [← Nat.add_assoc] at h9; exact h9.trans ((by decide : ∀ j, j < 118 → lx_9.getD (88 + j) (9, 0) = lx_1.getD j (9, 0)) j hj)) _) zyi_X1_init wm_X9_24 (by omega) ⟨Nat.le_of_ble_eq_true rfl, Nat.le_of_ble_eq_true rfl⟩ ⟨Nat.le_of_ble_eq_true rfl, Nat.le_of_ble_eq_true rfl⟩ (Nat.le_of_ble_eq_true rfl) dX9_init_42 ?_
  refine D_putR X (ty := (.object "ShardTrails$History")) (k := k) (j := 3) 88 ⟨by omega, (show lay (k) = (0, 9) from hL 0 (by decide))⟩ rfl inX9 tyX9_ok nmX9 (by decide) rfl rfl (by decide) rfl rfl wf_X9_25 rfl hnm rfl (by decide +kernel) (fun _ => rfl) (fun _ => rfl) dX9_init_45 ?_
  refine D_aload_n X 0 dX9_init_48 rfl rfl ?_
  refine D_new X tyX6 (show lay (k + 206) = (0, 6) from hL 206 (by decide)) rfl rfl inX6 tyX6_ok dv_6 wc_X9_29 wi_6 wz_6 (by omega) dX9_init_49 ⟨Nat.le_of_ble_eq_true rfl, Nat.le_of_ble_eq_true rfl⟩ ?_
  refine D_dup X dX9_init_52 rfl ?_
  refine D_callIN X (cd_X6_init l D cas h0 (k + 206) (fun j hj => by have h9 := hL (206 + j) (by omega); rw [← Nat.add_assoc] at h9; exact h9.trans ((by decide : ∀ j, j < 4 → lx_9.getD (206 + j) (9, 0) = lx_6.getD j (9, 0)) j hj)) _) zyi_X6_init wn_X9_31 (by omega) ⟨Nat.le_of_ble_eq_true rfl, Nat.le_of_ble_eq_true rfl⟩ ⟨Nat.le_of_ble_eq_true rfl, Nat.le_of_ble_eq_true rfl⟩ (Nat.le_of_ble_eq_true rfl) dX9_init_53 ?_
  refine D_putR X (ty := (.object "ShardTrails$Route")) (k := k) (j := 4) 206 ⟨by omega, (show lay (k) = (0, 9) from hL 0 (by decide))⟩ rfl inX9 tyX9_ok nmX9 (by decide) rfl rfl (by decide) rfl rfl wf_X9_32 rfl hnm rfl (by decide +kernel) (fun _ => rfl) (fun _ => rfl) dX9_init_56 ?_
  refine D_aload_n X 0 dX9_init_59 rfl rfl ?_
  refine D_new X tyX5 (show lay (k + 210) = (0, 5) from hL 210 (by decide)) rfl rfl inX5 tyX5_ok dv_5 wc_X9_36 wi_5 wz_5 (by omega) dX9_init_60 ⟨Nat.le_of_ble_eq_true rfl, Nat.le_of_ble_eq_true rfl⟩ ?_
  refine D_dup X dX9_init_63 rfl ?_
  refine D_callIN X (cd_X5_init l D cas h0 (k + 210) (fun j hj => by have h9 := hL (210 + j) (by omega); rw [← Nat.add_assoc] at h9; exact h9.trans ((by decide : ∀ j, j < 5 → lx_9.getD (210 + j) (9, 0) = lx_5.getD j (9, 0)) j hj)) _) zyi_X5_init wn_X9_38 (by omega) ⟨Nat.le_of_ble_eq_true rfl, Nat.le_of_ble_eq_true rfl⟩ ⟨Nat.le_of_ble_eq_true rfl, Nat.le_of_ble_eq_true rfl⟩ (Nat.le_of_ble_eq_true rfl) dX9_init_64 ?_
  refine D_putR X (ty := (.object "ShardTrails$RequestText")) (k := k) (j := 5) 210 ⟨by omega, (show lay (k) = (0, 9) from hL 0 (by decide))⟩ rfl inX9 tyX9_ok nmX9 (by decide) rfl rfl (by decide) rfl rfl wf_X9_39 rfl hnm rfl (by decide +kernel) (fun _ => rfl) (fun _ => rfl) dX9_init_67 ?_
  exact D_vret X hr hk0 dX9_init_70 rfl rfl rfl rfl
theorem dX10_init_0 : decode cX10_init 0 = .ok (.aload_n 0, 1) := by decide +kernel
theorem dX10_init_1 : decode cX10_init 1 = .ok (.invokespecial 1, 3) := by decide +kernel
theorem dX10_init_4 : decode cX10_init 4 = .ok (.aload_n 0, 1) := by decide +kernel
theorem dX10_init_5 : decode cX10_init 5 = .ok (.sipush 6097, 3) := by decide +kernel
theorem dX10_init_8 : decode cX10_init 8 = .ok (.newarray .int, 2) := by decide +kernel
theorem dX10_init_10 : decode cX10_init 10 = .ok (.putfield 7, 3) := by decide +kernel
theorem dX10_init_13 : decode cX10_init 13 = .ok (.aload_n 0, 1) := by decide +kernel
theorem dX10_init_14 : decode cX10_init 14 = .ok (.bipush 60, 2) := by decide +kernel
theorem dX10_init_16 : decode cX10_init 16 = .ok (.newarray .int, 2) := by decide +kernel
theorem dX10_init_18 : decode cX10_init 18 = .ok (.putfield 13, 3) := by decide +kernel
theorem dX10_init_21 : decode cX10_init 21 = .ok (.aload_n 0, 1) := by decide +kernel
theorem dX10_init_22 : decode cX10_init 22 = .ok (.sipush 160, 3) := by decide +kernel
theorem dX10_init_25 : decode cX10_init 25 = .ok (.newarray .int, 2) := by decide +kernel
theorem dX10_init_27 : decode cX10_init 27 = .ok (.putfield 16, 3) := by decide +kernel
theorem dX10_init_30 : decode cX10_init 30 = .ok (.aload_n 0, 1) := by decide +kernel
theorem dX10_init_31 : decode cX10_init 31 = .ok (.getfield 7, 3) := by decide +kernel
theorem dX10_init_34 : decode cX10_init 34 = .ok (.sipush 863, 3) := by decide +kernel
theorem dX10_init_37 : decode cX10_init 37 = .ok (.iconst 1, 1) := by decide +kernel
theorem dX10_init_38 : decode cX10_init 38 = .ok (.iastore, 1) := by decide +kernel
theorem dX10_init_39 : decode cX10_init 39 = .ok (.aload_n 0, 1) := by decide +kernel
theorem dX10_init_40 : decode cX10_init 40 = .ok (.getfield 7, 3) := by decide +kernel
theorem dX10_init_43 : decode cX10_init 43 = .ok (.iconst 1, 1) := by decide +kernel
theorem dX10_init_44 : decode cX10_init 44 = .ok (.bipush 16, 2) := by decide +kernel
theorem dX10_init_46 : decode cX10_init 46 = .ok (.iastore, 1) := by decide +kernel
theorem dX10_init_47 : decode cX10_init 47 = .ok (.aload_n 0, 1) := by decide +kernel
theorem dX10_init_48 : decode cX10_init 48 = .ok (.getfield 7, 3) := by decide +kernel
theorem dX10_init_51 : decode cX10_init 51 = .ok (.sipush 852, 3) := by decide +kernel
theorem dX10_init_54 : decode cX10_init 54 = .ok (.bipush 60, 2) := by decide +kernel
theorem dX10_init_56 : decode cX10_init 56 = .ok (.iastore, 1) := by decide +kernel
theorem dX10_init_57 : decode cX10_init 57 = .ok (.aload_n 0, 1) := by decide +kernel
theorem dX10_init_58 : decode cX10_init 58 = .ok (.getfield 7, 3) := by decide +kernel
theorem dX10_init_61 : decode cX10_init 61 = .ok (.sipush 853, 3) := by decide +kernel
theorem dX10_init_64 : decode cX10_init 64 = .ok (.bipush 40, 2) := by decide +kernel
theorem dX10_init_66 : decode cX10_init 66 = .ok (.iastore, 1) := by decide +kernel
theorem dX10_init_67 : decode cX10_init 67 = .ok (.aload_n 0, 1) := by decide +kernel
theorem dX10_init_68 : decode cX10_init 68 = .ok (.getfield 7, 3) := by decide +kernel
theorem dX10_init_71 : decode cX10_init 71 = .ok (.sipush 854, 3) := by decide +kernel
theorem dX10_init_74 : decode cX10_init 74 = .ok (.bipush 20, 2) := by decide +kernel
theorem dX10_init_76 : decode cX10_init 76 = .ok (.iastore, 1) := by decide +kernel
theorem dX10_init_77 : decode cX10_init 77 = .ok (.aload_n 0, 1) := by decide +kernel
theorem dX10_init_78 : decode cX10_init 78 = .ok (.getfield 7, 3) := by decide +kernel
theorem dX10_init_81 : decode cX10_init 81 = .ok (.sipush 855, 3) := by decide +kernel
theorem dX10_init_84 : decode cX10_init 84 = .ok (.bipush 40, 2) := by decide +kernel
theorem dX10_init_86 : decode cX10_init 86 = .ok (.iastore, 1) := by decide +kernel
theorem dX10_init_87 : decode cX10_init 87 = .ok (.aload_n 0, 1) := by decide +kernel
theorem dX10_init_88 : decode cX10_init 88 = .ok (.getfield 7, 3) := by decide +kernel
theorem dX10_init_91 : decode cX10_init 91 = .ok (.sipush 856, 3) := by decide +kernel
theorem dX10_init_94 : decode cX10_init 94 = .ok (.iconst 5, 1) := by decide +kernel
theorem dX10_init_95 : decode cX10_init 95 = .ok (.iastore, 1) := by decide +kernel
theorem dX10_init_96 : decode cX10_init 96 = .ok (.aload_n 0, 1) := by decide +kernel
theorem dX10_init_97 : decode cX10_init 97 = .ok (.getfield 7, 3) := by decide +kernel
theorem dX10_init_100 : decode cX10_init 100 = .ok (.sipush 857, 3) := by decide +kernel
theorem dX10_init_103 : decode cX10_init 103 = .ok (.bipush 10, 2) := by decide +kernel
theorem dX10_init_105 : decode cX10_init 105 = .ok (.iastore, 1) := by decide +kernel
theorem dX10_init_106 : decode cX10_init 106 = .ok (.aload_n 0, 1) := by decide +kernel
theorem dX10_init_107 : decode cX10_init 107 = .ok (.getfield 7, 3) := by decide +kernel
theorem dX10_init_110 : decode cX10_init 110 = .ok (.sipush 858, 3) := by decide +kernel
theorem dX10_init_113 : decode cX10_init 113 = .ok (.bipush 10, 2) := by decide +kernel
theorem dX10_init_115 : decode cX10_init 115 = .ok (.iastore, 1) := by decide +kernel
theorem dX10_init_116 : decode cX10_init 116 = .ok (.aload_n 0, 1) := by decide +kernel
theorem dX10_init_117 : decode cX10_init 117 = .ok (.getfield 7, 3) := by decide +kernel
theorem dX10_init_120 : decode cX10_init 120 = .ok (.sipush 859, 3) := by decide +kernel
theorem dX10_init_123 : decode cX10_init 123 = .ok (.iconst 4, 1) := by decide +kernel
theorem dX10_init_124 : decode cX10_init 124 = .ok (.iastore, 1) := by decide +kernel
theorem dX10_init_125 : decode cX10_init 125 = .ok (.aload_n 0, 1) := by decide +kernel
theorem dX10_init_126 : decode cX10_init 126 = .ok (.getfield 7, 3) := by decide +kernel
theorem dX10_init_129 : decode cX10_init 129 = .ok (.sipush 860, 3) := by decide +kernel
theorem dX10_init_132 : decode cX10_init 132 = .ok (.iconst 3, 1) := by decide +kernel
theorem dX10_init_133 : decode cX10_init 133 = .ok (.iastore, 1) := by decide +kernel
theorem dX10_init_134 : decode cX10_init 134 = .ok (.aload_n 0, 1) := by decide +kernel
theorem dX10_init_135 : decode cX10_init 135 = .ok (.getfield 7, 3) := by decide +kernel
theorem dX10_init_138 : decode cX10_init 138 = .ok (.sipush 861, 3) := by decide +kernel
theorem dX10_init_141 : decode cX10_init 141 = .ok (.bipush 20, 2) := by decide +kernel
theorem dX10_init_143 : decode cX10_init 143 = .ok (.iastore, 1) := by decide +kernel
theorem dX10_init_144 : decode cX10_init 144 = .ok (.return_, 1) := by decide +kernel
def lx_10 : List (Nat × Nat) := [(0, 10), (1, 6097), (1, 60), (1, 160)]
def g_X10_init (k : Nat) (M : Mem) : Mem :=
  (wr (wr (wr (wr (wr (wr (wr (wr (wr (wr (wr (wr (wr (ml (wr (ml (wr (ml M (k + 1) fun _ => 0) k 0 1) (k + 2) fun _ => 0) k 3 1) (k + 3) fun _ => 0) k 5 1) (k + 1) 863 1) (k + 1) 1 16) (k + 1) 852 60) (k + 1) 853 40) (k + 1) 854 20) (k + 1) 855 40) (k + 1) 856 5) (k + 1) 857 10) (k + 1) 858 10) (k + 1) 859 4) (k + 1) 860 3) (k + 1) 861 20)
set_option maxRecDepth 100000 in
set_option maxHeartbeats 4000000 in
theorem cd_X10_init (l : Launch) (D : va_G) (cas : Nat → ClassId) (h0 k : Nat) (hL : ∀ j, j < 4 → lay (k + j) = lx_10.getD j (9, 0)) (M : Mem) : zKd l D cas h0 yX10_init cX10_init 1 1 20 3 6317 [.ref (h0 + k)] (k + 1) M (k + 4) (g_X10_init k M) := by
  refine zbodyD (by decide) (Nat.le_of_ble_eq_true rfl) ?_
  intro p e s m args below meth c X hr hk0 hnm
  have hnm : meth.name = "<init>" := hnm
  have X : zY p s m args c cX10_init "ShardTrailsModel" 1 D cas h0 (k + 1) := X
  refine (?_ : WD p l e (zro 1 20 3 6317) s m args below meth c D cas h0 1 (MQ below (zQd D cas h0 (k + 4) (g_X10_init k M)) args s 3 6317 (fun q => h0 ≤ q)) 0 0 0 [(0, .ref (h0 + k))] [] (k + 1) M)
  refine D_aload_n X 0 dX10_init_0 rfl rfl ?_
  refine D_obj X wm_X10_1 zo_i zo_c dX10_init_1 (by decide) (Nat.le_of_ble_eq_true rfl) ?_
  refine D_aload_n X 0 dX10_init_4 rfl rfl ?_
  refine D_sipush X dX10_init_5 (by decide +kernel) ?_
  refine D_newa X (atype := .int) (t := 0) (show lay (k + 1) = (1, 6097) from hL 1 (by decide)) (by decide) rfl rfl (fun C h => by cases h) rfl wa_int ⟨by decide, by decide⟩ (by decide) (by decide) (by omega) dX10_init_8 ⟨Nat.le_of_ble_eq_true rfl, Nat.le_of_ble_eq_true rfl⟩ ?_
  refine D_putR X (ty := (.array .int)) (k := k) (j := 0) 1 ⟨by omega, (show lay (k) = (0, 10) from hL 0 (by decide))⟩ rfl inX10 tyX10_ok nmX10 (by decide) rfl rfl (by decide) rfl rfl wf_X10_7 rfl hnm rfl (by decide +kernel) (fun _ => rfl) (fun _ => rfl) dX10_init_10 ?_
  refine D_aload_n X 0 dX10_init_13 rfl rfl ?_
  refine D_bipush X dX10_init_14 (by decide +kernel) ?_
  refine D_newa X (atype := .int) (t := 0) (show lay (k + 2) = (1, 60) from hL 2 (by decide)) (by decide) rfl rfl (fun C h => by cases h) rfl wa_int ⟨by decide, by decide⟩ (by decide) (by decide) (by omega) dX10_init_16 ⟨Nat.le_of_ble_eq_true rfl, Nat.le_of_ble_eq_true rfl⟩ ?_
  refine D_putR X (ty := (.array .int)) (k := k) (j := 3) 2 ⟨by omega, (show lay (k) = (0, 10) from hL 0 (by decide))⟩ rfl inX10 tyX10_ok nmX10 (by decide) rfl rfl (by decide) rfl rfl wf_X10_13 rfl hnm rfl (by decide +kernel) (fun _ => rfl) (fun _ => rfl) dX10_init_18 ?_
  refine D_aload_n X 0 dX10_init_21 rfl rfl ?_
  refine D_sipush X dX10_init_22 (by decide +kernel) ?_
  refine D_newa X (atype := .int) (t := 0) (show lay (k + 3) = (1, 160) from hL 3 (by decide)) (by decide) rfl rfl (fun C h => by cases h) rfl wa_int ⟨by decide, by decide⟩ (by decide) (by decide) (by omega) dX10_init_25 ⟨Nat.le_of_ble_eq_true rfl, Nat.le_of_ble_eq_true rfl⟩ ?_
  refine D_putR X (ty := (.array .int)) (k := k) (j := 5) 3 ⟨by omega, (show lay (k) = (0, 10) from hL 0 (by decide))⟩ rfl inX10 tyX10_ok nmX10 (by decide) rfl rfl (by decide) rfl rfl wf_X10_16 rfl hnm rfl (by decide +kernel) (fun _ => rfl) (fun _ => rfl) dX10_init_27 ?_
  refine D_aload_n X 0 dX10_init_30 rfl rfl ?_
  refine D_getR X (k := k) (j := 0) 1 (k + 1) ⟨by omega, (show lay (k) = (0, 10) from hL 0 (by decide))⟩ (by simp [wr, ml, flM, up, Nat.add_assoc]) rfl inX10 (by decide) rfl rfl (by decide) rfl rfl wf_X10_7 dX10_init_31 ?_
  refine D_sipush X dX10_init_34 (by decide +kernel) ?_
  refine D_iconst X dX10_init_37 ?_
  refine D_iast X (k := k + 1) 863 ⟨by omega, (show lay (k + 1) = (1, 6097) from hL 1 (by decide))⟩ (by decide) (by decide) rfl dX10_init_38 ?_
  refine D_aload_n X 0 dX10_init_39 rfl rfl ?_
  refine D_getR X (k := k) (j := 0) 1 (k + 1) ⟨by omega, (show lay (k) = (0, 10) from hL 0 (by decide))⟩ (by simp [wr, ml, flM, up, Nat.add_assoc]) rfl inX10 (by decide) rfl rfl (by decide) rfl rfl wf_X10_7 dX10_init_40 ?_
  refine D_iconst X dX10_init_43 ?_
  refine D_bipush X dX10_init_44 (by decide +kernel) ?_
  refine D_iast X (k := k + 1) 1 ⟨by omega, (show lay (k + 1) = (1, 6097) from hL 1 (by decide))⟩ (by decide) (by decide) rfl dX10_init_46 ?_
  refine D_aload_n X 0 dX10_init_47 rfl rfl ?_
  refine D_getR X (k := k) (j := 0) 1 (k + 1) ⟨by omega, (show lay (k) = (0, 10) from hL 0 (by decide))⟩ (by simp [wr, ml, flM, up, Nat.add_assoc]) rfl inX10 (by decide) rfl rfl (by decide) rfl rfl wf_X10_7 dX10_init_48 ?_
  refine D_sipush X dX10_init_51 (by decide +kernel) ?_
  refine D_bipush X dX10_init_54 (by decide +kernel) ?_
  refine D_iast X (k := k + 1) 852 ⟨by omega, (show lay (k + 1) = (1, 6097) from hL 1 (by decide))⟩ (by decide) (by decide) rfl dX10_init_56 ?_
  refine D_aload_n X 0 dX10_init_57 rfl rfl ?_
  refine D_getR X (k := k) (j := 0) 1 (k + 1) ⟨by omega, (show lay (k) = (0, 10) from hL 0 (by decide))⟩ (by simp [wr, ml, flM, up, Nat.add_assoc]) rfl inX10 (by decide) rfl rfl (by decide) rfl rfl wf_X10_7 dX10_init_58 ?_
  refine D_sipush X dX10_init_61 (by decide +kernel) ?_
  refine D_bipush X dX10_init_64 (by decide +kernel) ?_
  refine D_iast X (k := k + 1) 853 ⟨by omega, (show lay (k + 1) = (1, 6097) from hL 1 (by decide))⟩ (by decide) (by decide) rfl dX10_init_66 ?_
  refine D_aload_n X 0 dX10_init_67 rfl rfl ?_
  refine D_getR X (k := k) (j := 0) 1 (k + 1) ⟨by omega, (show lay (k) = (0, 10) from hL 0 (by decide))⟩ (by simp [wr, ml, flM, up, Nat.add_assoc]) rfl inX10 (by decide) rfl rfl (by decide) rfl rfl wf_X10_7 dX10_init_68 ?_
  refine D_sipush X dX10_init_71 (by decide +kernel) ?_
  refine D_bipush X dX10_init_74 (by decide +kernel) ?_
  refine D_iast X (k := k + 1) 854 ⟨by omega, (show lay (k + 1) = (1, 6097) from hL 1 (by decide))⟩ (by decide) (by decide) rfl dX10_init_76 ?_
  refine D_aload_n X 0 dX10_init_77 rfl rfl ?_
  refine D_getR X (k := k) (j := 0) 1 (k + 1) ⟨by omega, (show lay (k) = (0, 10) from hL 0 (by decide))⟩ (by simp [wr, ml, flM, up, Nat.add_assoc]) rfl inX10 (by decide) rfl rfl (by decide) rfl rfl wf_X10_7 dX10_init_78 ?_
  refine D_sipush X dX10_init_81 (by decide +kernel) ?_
  refine D_bipush X dX10_init_84 (by decide +kernel) ?_
  refine D_iast X (k := k + 1) 855 ⟨by omega, (show lay (k + 1) = (1, 6097) from hL 1 (by decide))⟩ (by decide) (by decide) rfl dX10_init_86 ?_
  refine D_aload_n X 0 dX10_init_87 rfl rfl ?_
  refine D_getR X (k := k) (j := 0) 1 (k + 1) ⟨by omega, (show lay (k) = (0, 10) from hL 0 (by decide))⟩ (by simp [wr, ml, flM, up, Nat.add_assoc]) rfl inX10 (by decide) rfl rfl (by decide) rfl rfl wf_X10_7 dX10_init_88 ?_
  refine D_sipush X dX10_init_91 (by decide +kernel) ?_
  refine D_iconst X dX10_init_94 ?_
  refine D_iast X (k := k + 1) 856 ⟨by omega, (show lay (k + 1) = (1, 6097) from hL 1 (by decide))⟩ (by decide) (by decide) rfl dX10_init_95 ?_
  refine D_aload_n X 0 dX10_init_96 rfl rfl ?_
  refine D_getR X (k := k) (j := 0) 1 (k + 1) ⟨by omega, (show lay (k) = (0, 10) from hL 0 (by decide))⟩ (by simp [wr, ml, flM, up, Nat.add_assoc]) rfl inX10 (by decide) rfl rfl (by decide) rfl rfl wf_X10_7 dX10_init_97 ?_
  refine D_sipush X dX10_init_100 (by decide +kernel) ?_
  refine D_bipush X dX10_init_103 (by decide +kernel) ?_
  refine D_iast X (k := k + 1) 857 ⟨by omega, (show lay (k + 1) = (1, 6097) from hL 1 (by decide))⟩ (by decide) (by decide) rfl dX10_init_105 ?_
  refine D_aload_n X 0 dX10_init_106 rfl rfl ?_
  refine D_getR X (k := k) (j := 0) 1 (k + 1) ⟨by omega, (show lay (k) = (0, 10) from hL 0 (by decide))⟩ (by simp [wr, ml, flM, up, Nat.add_assoc]) rfl inX10 (by decide) rfl rfl (by decide) rfl rfl wf_X10_7 dX10_init_107 ?_
  refine D_sipush X dX10_init_110 (by decide +kernel) ?_
  refine D_bipush X dX10_init_113 (by decide +kernel) ?_
  refine D_iast X (k := k + 1) 858 ⟨by omega, (show lay (k + 1) = (1, 6097) from hL 1 (by decide))⟩ (by decide) (by decide) rfl dX10_init_115 ?_
  refine D_aload_n X 0 dX10_init_116 rfl rfl ?_
  refine D_getR X (k := k) (j := 0) 1 (k + 1) ⟨by omega, (show lay (k) = (0, 10) from hL 0 (by decide))⟩ (by simp [wr, ml, flM, up, Nat.add_assoc]) rfl inX10 (by decide) rfl rfl (by decide) rfl rfl wf_X10_7 dX10_init_117 ?_
  refine D_sipush X dX10_init_120 (by decide +kernel) ?_
  refine D_iconst X dX10_init_123 ?_
  refine D_iast X (k := k + 1) 859 ⟨by omega, (show lay (k + 1) = (1, 6097) from hL 1 (by decide))⟩ (by decide) (by decide) rfl dX10_init_124 ?_
  refine D_aload_n X 0 dX10_init_125 rfl rfl ?_
  refine D_getR X (k := k) (j := 0) 1 (k + 1) ⟨by omega, (show lay (k) = (0, 10) from hL 0 (by decide))⟩ (by simp [wr, ml, flM, up, Nat.add_assoc]) rfl inX10 (by decide) rfl rfl (by decide) rfl rfl wf_X10_7 dX10_init_126 ?_
  refine D_sipush X dX10_init_129 (by decide +kernel) ?_
  refine D_iconst X dX10_init_132 ?_
  refine D_iast X (k := k + 1) 860 ⟨by omega, (show lay (k + 1) = (1, 6097) from hL 1 (by decide))⟩ (by decide) (by decide) rfl dX10_init_133 ?_
  refine D_aload_n X 0 dX10_init_134 rfl rfl ?_
  refine D_getR X (k := k) (j := 0) 1 (k + 1) ⟨by omega, (show lay (k) = (0, 10) from hL 0 (by decide))⟩ (by simp [wr, ml, flM, up, Nat.add_assoc]) rfl inX10 (by decide) rfl rfl (by decide) rfl rfl wf_X10_7 dX10_init_135 ?_
  refine D_sipush X dX10_init_138 (by decide +kernel) ?_
  refine D_bipush X dX10_init_141 (by decide +kernel) ?_
  refine D_iast X (k := k + 1) 861 ⟨by omega, (show lay (k + 1) = (1, 6097) from hL 1 (by decide))⟩ (by decide) (by decide) rfl dX10_init_143 ?_
  exact D_vret X hr hk0 dX10_init_144 rfl rfl rfl rfl
end
