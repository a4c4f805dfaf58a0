section
-- ===== PART A: goes FIRST, ahead of the names: the tables' words, and 'selects' of the private methods out of them =====
/-- a private method of a class that the tables say can be made, by its rows of tables_1 -/
def lw_okq (q : MethodName × Nat) : Prop := (q.1.cls ≠ "java/lang/invoke/MethodHandle" ∧ q.1.cls ≠ "java/lang/invoke/VarHandle") ∧ Cond.instantiable q.1.cls q.2 ∈ tables_1 ∧ Cond.privateMethod q.1 ∈ tables_1 ∧ Cond.instanceMethod q.1 ∈ tables_1
theorem lw_p0 : lw_okq (⟨"ShardTrails", "isPasture", "(I)Z"⟩, 7) := ⟨⟨by decide +kernel, by decide +kernel⟩, List.mem_of_getElem? (i := 16) (by decide +kernel), List.mem_of_getElem? (i := 412) (by decide +kernel), List.mem_of_getElem? (i := 413) (by decide +kernel)⟩
theorem lw_p1 : lw_okq (⟨"ShardTrails", "isReader", "(I)Z"⟩, 7) := ⟨⟨by decide +kernel, by decide +kernel⟩, List.mem_of_getElem? (i := 16) (by decide +kernel), List.mem_of_getElem? (i := 589) (by decide +kernel), List.mem_of_getElem? (i := 590) (by decide +kernel)⟩
theorem lw_p2 : lw_okq (⟨"ShardTrails", "serve", "(III)I"⟩, 7) := ⟨⟨by decide +kernel, by decide +kernel⟩, List.mem_of_getElem? (i := 16) (by decide +kernel), List.mem_of_getElem? (i := 596) (by decide +kernel), List.mem_of_getElem? (i := 597) (by decide +kernel)⟩
theorem lw_p3 : lw_okq (⟨"ShardTrails$Route", "begin", "(I)V"⟩, 9) := ⟨⟨by decide +kernel, by decide +kernel⟩, List.mem_of_getElem? (i := 255) (by decide +kernel), List.mem_of_getElem? (i := 605) (by decide +kernel), List.mem_of_getElem? (i := 606) (by decide +kernel)⟩
theorem lw_p4 : lw_okq (⟨"ShardTrails$Route", "put", "(I)V"⟩, 9) := ⟨⟨by decide +kernel, by decide +kernel⟩, List.mem_of_getElem? (i := 255) (by decide +kernel), List.mem_of_getElem? (i := 609) (by decide +kernel), List.mem_of_getElem? (i := 610) (by decide +kernel)⟩
theorem lw_p5 : lw_okq (⟨"ShardTrails$Route", "next", "(LShardTrails$State;II)I"⟩, 9) := ⟨⟨by decide +kernel, by decide +kernel⟩, List.mem_of_getElem? (i := 255) (by decide +kernel), List.mem_of_getElem? (i := 613) (by decide +kernel), List.mem_of_getElem? (i := 614) (by decide +kernel)⟩
theorem lw_p6 : lw_okq (⟨"ShardTrails$Route", "nearestNewInn", "(LShardTrails$Land;I)I"⟩, 9) := ⟨⟨by decide +kernel, by decide +kernel⟩, List.mem_of_getElem? (i := 255) (by decide +kernel), List.mem_of_getElem? (i := 618) (by decide +kernel), List.mem_of_getElem? (i := 619) (by decide +kernel)⟩
theorem lw_p7 : lw_okq (⟨"ShardTrails$RequestText", "parseRequest", "(I)Z"⟩, 7) := ⟨⟨by decide +kernel, by decide +kernel⟩, List.mem_of_getElem? (i := 299) (by decide +kernel), List.mem_of_getElem? (i := 663) (by decide +kernel), List.mem_of_getElem? (i := 664) (by decide +kernel)⟩
theorem lw_p8 : lw_okq (⟨"ShardTrails$RequestText", "isDigit", "()Z"⟩, 7) := ⟨⟨by decide +kernel, by decide +kernel⟩, List.mem_of_getElem? (i := 299) (by decide +kernel), List.mem_of_getElem? (i := 667) (by decide +kernel), List.mem_of_getElem? (i := 668) (by decide +kernel)⟩
theorem lw_p9 : lw_okq (⟨"ShardTrails$RequestText", "digit", "()I"⟩, 7) := ⟨⟨by decide +kernel, by decide +kernel⟩, List.mem_of_getElem? (i := 299) (by decide +kernel), List.mem_of_getElem? (i := 671) (by decide +kernel), List.mem_of_getElem? (i := 672) (by decide +kernel)⟩
theorem lw_p10 : lw_okq (⟨"ShardTrails$RequestText", "skip", "(C)Z"⟩, 7) := ⟨⟨by decide +kernel, by decide +kernel⟩, List.mem_of_getElem? (i := 299) (by decide +kernel), List.mem_of_getElem? (i := 675) (by decide +kernel), List.mem_of_getElem? (i := 676) (by decide +kernel)⟩
theorem lw_p11 : lw_okq (⟨"ShardTrails$RequestText", "parseNumber", "(I)I"⟩, 7) := ⟨⟨by decide +kernel, by decide +kernel⟩, List.mem_of_getElem? (i := 299) (by decide +kernel), List.mem_of_getElem? (i := 679) (by decide +kernel), List.mem_of_getElem? (i := 680) (by decide +kernel)⟩
theorem lw_p12 : lw_okq (⟨"ShardTrailsModel", "copy", "(II)V"⟩, 15) := ⟨⟨by decide +kernel, by decide +kernel⟩, List.mem_of_getElem? (i := 779) (by decide +kernel), List.mem_of_getElem? (i := 835) (by decide +kernel), List.mem_of_getElem? (i := 836) (by decide +kernel)⟩
theorem lw_p13 : lw_okq (⟨"ShardTrailsModel", "record", "()V"⟩, 15) := ⟨⟨by decide +kernel, by decide +kernel⟩, List.mem_of_getElem? (i := 779) (by decide +kernel), List.mem_of_getElem? (i := 847) (by decide +kernel), List.mem_of_getElem? (i := 848) (by decide +kernel)⟩
theorem lw_p14 : lw_okq (⟨"ShardTrailsModel", "isPasture", "(I)Z"⟩, 15) := ⟨⟨by decide +kernel, by decide +kernel⟩, List.mem_of_getElem? (i := 779) (by decide +kernel), List.mem_of_getElem? (i := 862) (by decide +kernel), List.mem_of_getElem? (i := 863) (by decide +kernel)⟩
theorem lw_p15 : lw_okq (⟨"ShardTrailsModel", "shardsIn", "(I)I"⟩, 15) := ⟨⟨by decide +kernel, by decide +kernel⟩, List.mem_of_getElem? (i := 779) (by decide +kernel), List.mem_of_getElem? (i := 866) (by decide +kernel), List.mem_of_getElem? (i := 867) (by decide +kernel)⟩
def lw_privs_1 : List (MethodName × Nat) := [(⟨"ShardTrails", "isPasture", "(I)Z"⟩, 7), (⟨"ShardTrails", "isReader", "(I)Z"⟩, 7), (⟨"ShardTrails", "serve", "(III)I"⟩, 7), (⟨"ShardTrails$Route", "begin", "(I)V"⟩, 9), (⟨"ShardTrails$Route", "put", "(I)V"⟩, 9), (⟨"ShardTrails$Route", "next", "(LShardTrails$State;II)I"⟩, 9), (⟨"ShardTrails$Route", "nearestNewInn", "(LShardTrails$Land;I)I"⟩, 9), (⟨"ShardTrails$RequestText", "parseRequest", "(I)Z"⟩, 7), (⟨"ShardTrails$RequestText", "isDigit", "()Z"⟩, 7), (⟨"ShardTrails$RequestText", "digit", "()I"⟩, 7), (⟨"ShardTrails$RequestText", "skip", "(C)Z"⟩, 7), (⟨"ShardTrails$RequestText", "parseNumber", "(I)I"⟩, 7), (⟨"ShardTrailsModel", "copy", "(II)V"⟩, 15), (⟨"ShardTrailsModel", "record", "()V"⟩, 15), (⟨"ShardTrailsModel", "isPasture", "(I)Z"⟩, 15), (⟨"ShardTrailsModel", "shardsIn", "(I)I"⟩, 15)]
theorem lw_r1 : ∀ q ∈ lw_privs_1, lw_okq q := List.forall_mem_cons.mpr ⟨lw_p0, List.forall_mem_cons.mpr ⟨lw_p1, List.forall_mem_cons.mpr ⟨lw_p2, List.forall_mem_cons.mpr ⟨lw_p3, List.forall_mem_cons.mpr ⟨lw_p4, List.forall_mem_cons.mpr ⟨lw_p5, List.forall_mem_cons.mpr ⟨lw_p6, List.forall_mem_cons.mpr ⟨lw_p7, List.forall_mem_cons.mpr ⟨lw_p8, List.forall_mem_cons.mpr ⟨lw_p9, List.forall_mem_cons.mpr ⟨lw_p10, List.forall_mem_cons.mpr ⟨lw_p11, List.forall_mem_cons.mpr ⟨lw_p12, List.forall_mem_cons.mpr ⟨lw_p13, List.forall_mem_cons.mpr ⟨lw_p14, List.forall_mem_cons.mpr ⟨lw_p15, fun _ h => absurd h List.not_mem_nil⟩⟩⟩⟩⟩⟩⟩⟩⟩⟩⟩⟩⟩⟩⟩⟩
theorem lw_p16 : lw_okq (⟨"ShardTrailsModel", "roomOf", "(I)I"⟩, 15) := ⟨⟨by decide +kernel, by decide +kernel⟩, List.mem_of_getElem? (i := 779) (by decide +kernel), List.mem_of_getElem? (i := 870) (by decide +kernel), List.mem_of_getElem? (i := 871) (by decide +kernel)⟩
theorem lw_p17 : lw_okq (⟨"ShardTrailsModel", "hasInn", "(I)Z"⟩, 15) := ⟨⟨by decide +kernel, by decide +kernel⟩, List.mem_of_getElem? (i := 779) (by decide +kernel), List.mem_of_getElem? (i := 878) (by decide +kernel), List.mem_of_getElem? (i := 879) (by decide +kernel)⟩
theorem lw_p18 : lw_okq (⟨"ShardTrailsModel", "inns", "()I"⟩, 15) := ⟨⟨by decide +kernel, by decide +kernel⟩, List.mem_of_getElem? (i := 779) (by decide +kernel), List.mem_of_getElem? (i := 882) (by decide +kernel), List.mem_of_getElem? (i := 883) (by decide +kernel)⟩
theorem lw_p19 : lw_okq (⟨"ShardTrailsModel", "put", "(II)I"⟩, 15) := ⟨⟨by decide +kernel, by decide +kernel⟩, List.mem_of_getElem? (i := 779) (by decide +kernel), List.mem_of_getElem? (i := 902) (by decide +kernel), List.mem_of_getElem? (i := 903) (by decide +kernel)⟩
theorem lw_p20 : lw_okq (⟨"ShardTrailsModel", "go", "(II)V"⟩, 15) := ⟨⟨by decide +kernel, by decide +kernel⟩, List.mem_of_getElem? (i := 779) (by decide +kernel), List.mem_of_getElem? (i := 920) (by decide +kernel), List.mem_of_getElem? (i := 921) (by decide +kernel)⟩
theorem lw_p21 : lw_okq (⟨"ShardTrailsModel", "tracksIn", "(I)I"⟩, 15) := ⟨⟨by decide +kernel, by decide +kernel⟩, List.mem_of_getElem? (i := 779) (by decide +kernel), List.mem_of_getElem? (i := 931) (by decide +kernel), List.mem_of_getElem? (i := 932) (by decide +kernel)⟩
theorem lw_p22 : lw_okq (⟨"ShardTrailsModel", "hasTrack", "(II)Z"⟩, 15) := ⟨⟨by decide +kernel, by decide +kernel⟩, List.mem_of_getElem? (i := 779) (by decide +kernel), List.mem_of_getElem? (i := 935) (by decide +kernel), List.mem_of_getElem? (i := 936) (by decide +kernel)⟩
theorem lw_p23 : lw_okq (⟨"ShardTrailsModel", "cutIn", "(I)I"⟩, 15) := ⟨⟨by decide +kernel, by decide +kernel⟩, List.mem_of_getElem? (i := 779) (by decide +kernel), List.mem_of_getElem? (i := 939) (by decide +kernel), List.mem_of_getElem? (i := 940) (by decide +kernel)⟩
theorem lw_p24 : lw_okq (⟨"ShardTrailsModel", "postAll", "()V"⟩, 15) := ⟨⟨by decide +kernel, by decide +kernel⟩, List.mem_of_getElem? (i := 779) (by decide +kernel), List.mem_of_getElem? (i := 947) (by decide +kernel), List.mem_of_getElem? (i := 948) (by decide +kernel)⟩
theorem lw_p25 : lw_okq (⟨"ShardTrailsModel", "passDay", "()V"⟩, 15) := ⟨⟨by decide +kernel, by decide +kernel⟩, List.mem_of_getElem? (i := 779) (by decide +kernel), List.mem_of_getElem? (i := 955) (by decide +kernel), List.mem_of_getElem? (i := 956) (by decide +kernel)⟩
theorem lw_p26 : lw_okq (⟨"ShardTrailsModel", "roam", "()V"⟩, 15) := ⟨⟨by decide +kernel, by decide +kernel⟩, List.mem_of_getElem? (i := 779) (by decide +kernel), List.mem_of_getElem? (i := 959) (by decide +kernel), List.mem_of_getElem? (i := 960) (by decide +kernel)⟩
theorem lw_p27 : lw_okq (⟨"ShardTrailsModel", "grow", "()V"⟩, 15) := ⟨⟨by decide +kernel, by decide +kernel⟩, List.mem_of_getElem? (i := 779) (by decide +kernel), List.mem_of_getElem? (i := 963) (by decide +kernel), List.mem_of_getElem? (i := 964) (by decide +kernel)⟩
theorem lw_p28 : lw_okq (⟨"ShardTrailsModel", "drive", "()V"⟩, 15) := ⟨⟨by decide +kernel, by decide +kernel⟩, List.mem_of_getElem? (i := 779) (by decide +kernel), List.mem_of_getElem? (i := 967) (by decide +kernel), List.mem_of_getElem? (i := 968) (by decide +kernel)⟩
theorem lw_p29 : lw_okq (⟨"ShardTrailsModel", "orderOf", "(I)I"⟩, 15) := ⟨⟨by decide +kernel, by decide +kernel⟩, List.mem_of_getElem? (i := 779) (by decide +kernel), List.mem_of_getElem? (i := 971) (by decide +kernel), List.mem_of_getElem? (i := 972) (by decide +kernel)⟩
theorem lw_p30 : lw_okq (⟨"ShardTrailsModel", "lookedAt", "(I)I"⟩, 15) := ⟨⟨by decide +kernel, by decide +kernel⟩, List.mem_of_getElem? (i := 779) (by decide +kernel), List.mem_of_getElem? (i := 975) (by decide +kernel), List.mem_of_getElem? (i := 976) (by decide +kernel)⟩
theorem lw_p31 : lw_okq (⟨"ShardTrailsModel", "distanceOf", "(I)I"⟩, 15) := ⟨⟨by decide +kernel, by decide +kernel⟩, List.mem_of_getElem? (i := 779) (by decide +kernel), List.mem_of_getElem? (i := 979) (by decide +kernel), List.mem_of_getElem? (i := 980) (by decide +kernel)⟩
def lw_privs_2 : List (MethodName × Nat) := [(⟨"ShardTrailsModel", "roomOf", "(I)I"⟩, 15), (⟨"ShardTrailsModel", "hasInn", "(I)Z"⟩, 15), (⟨"ShardTrailsModel", "inns", "()I"⟩, 15), (⟨"ShardTrailsModel", "put", "(II)I"⟩, 15), (⟨"ShardTrailsModel", "go", "(II)V"⟩, 15), (⟨"ShardTrailsModel", "tracksIn", "(I)I"⟩, 15), (⟨"ShardTrailsModel", "hasTrack", "(II)Z"⟩, 15), (⟨"ShardTrailsModel", "cutIn", "(I)I"⟩, 15), (⟨"ShardTrailsModel", "postAll", "()V"⟩, 15), (⟨"ShardTrailsModel", "passDay", "()V"⟩, 15), (⟨"ShardTrailsModel", "roam", "()V"⟩, 15), (⟨"ShardTrailsModel", "grow", "()V"⟩, 15), (⟨"ShardTrailsModel", "drive", "()V"⟩, 15), (⟨"ShardTrailsModel", "orderOf", "(I)I"⟩, 15), (⟨"ShardTrailsModel", "lookedAt", "(I)I"⟩, 15), (⟨"ShardTrailsModel", "distanceOf", "(I)I"⟩, 15)]
theorem lw_r2 : ∀ q ∈ lw_privs_2, lw_okq q := List.forall_mem_cons.mpr ⟨lw_p16, List.forall_mem_cons.mpr ⟨lw_p17, List.forall_mem_cons.mpr ⟨lw_p18, List.forall_mem_cons.mpr ⟨lw_p19, List.forall_mem_cons.mpr ⟨lw_p20, List.forall_mem_cons.mpr ⟨lw_p21, List.forall_mem_cons.mpr ⟨lw_p22, List.forall_mem_cons.mpr ⟨lw_p23, List.forall_mem_cons.mpr ⟨lw_p24, List.forall_mem_cons.mpr ⟨lw_p25, List.forall_mem_cons.mpr ⟨lw_p26, List.forall_mem_cons.mpr ⟨lw_p27, List.forall_mem_cons.mpr ⟨lw_p28, List.forall_mem_cons.mpr ⟨lw_p29, List.forall_mem_cons.mpr ⟨lw_p30, List.forall_mem_cons.mpr ⟨lw_p31, fun _ h => absurd h List.not_mem_nil⟩⟩⟩⟩⟩⟩⟩⟩⟩⟩⟩⟩⟩⟩⟩⟩
theorem lw_p32 : lw_okq (⟨"ShardTrailsModel", "latitudeOf", "(I)I"⟩, 15) := ⟨⟨by decide +kernel, by decide +kernel⟩, List.mem_of_getElem? (i := 779) (by decide +kernel), List.mem_of_getElem? (i := 983) (by decide +kernel), List.mem_of_getElem? (i := 984) (by decide +kernel)⟩
theorem lw_p33 : lw_okq (⟨"ShardTrailsModel", "season", "()I"⟩, 15) := ⟨⟨by decide +kernel, by decide +kernel⟩, List.mem_of_getElem? (i := 779) (by decide +kernel), List.mem_of_getElem? (i := 987) (by decide +kernel), List.mem_of_getElem? (i := 988) (by decide +kernel)⟩
theorem lw_p34 : lw_okq (⟨"ShardTrailsModel", "isReader", "(I)Z"⟩, 15) := ⟨⟨by decide +kernel, by decide +kernel⟩, List.mem_of_getElem? (i := 779) (by decide +kernel), List.mem_of_getElem? (i := 999) (by decide +kernel), List.mem_of_getElem? (i := 1000) (by decide +kernel)⟩
theorem lw_p35 : lw_okq (⟨"ShardTrailsModel", "reachFor", "(II)I"⟩, 15) := ⟨⟨by decide +kernel, by decide +kernel⟩, List.mem_of_getElem? (i := 779) (by decide +kernel), List.mem_of_getElem? (i := 1006) (by decide +kernel), List.mem_of_getElem? (i := 1007) (by decide +kernel)⟩
theorem lw_p36 : lw_okq (⟨"ShardTrailsModel", "findWay", "(II)V"⟩, 15) := ⟨⟨by decide +kernel, by decide +kernel⟩, List.mem_of_getElem? (i := 779) (by decide +kernel), List.mem_of_getElem? (i := 1010) (by decide +kernel), List.mem_of_getElem? (i := 1011) (by decide +kernel)⟩
theorem lw_p37 : lw_okq (⟨"ShardTrailsModel", "comeTo", "(I)V"⟩, 15) := ⟨⟨by decide +kernel, by decide +kernel⟩, List.mem_of_getElem? (i := 779) (by decide +kernel), List.mem_of_getElem? (i := 1014) (by decide +kernel), List.mem_of_getElem? (i := 1015) (by decide +kernel)⟩
theorem lw_p38 : lw_okq (⟨"ShardTrailsModel", "stepFrom", "(II)I"⟩, 15) := ⟨⟨by decide +kernel, by decide +kernel⟩, List.mem_of_getElem? (i := 779) (by decide +kernel), List.mem_of_getElem? (i := 1018) (by decide +kernel), List.mem_of_getElem? (i := 1019) (by decide +kernel)⟩
theorem lw_p39 : lw_okq (⟨"ShardTrailsModel", "nextInn", "(I)I"⟩, 15) := ⟨⟨by decide +kernel, by decide +kernel⟩, List.mem_of_getElem? (i := 779) (by decide +kernel), List.mem_of_getElem? (i := 1025) (by decide +kernel), List.mem_of_getElem? (i := 1026) (by decide +kernel)⟩
theorem lw_p40 : lw_okq (⟨"ShardTrailsModel", "faultOf", "()I"⟩, 15) := ⟨⟨by decide +kernel, by decide +kernel⟩, List.mem_of_getElem? (i := 779) (by decide +kernel), List.mem_of_getElem? (i := 1045) (by decide +kernel), List.mem_of_getElem? (i := 1046) (by decide +kernel)⟩
theorem lw_p41 : lw_okq (⟨"ShardTrailsModel", "begin", "(I)V"⟩, 15) := ⟨⟨by decide +kernel, by decide +kernel⟩, List.mem_of_getElem? (i := 779) (by decide +kernel), List.mem_of_getElem? (i := 1049) (by decide +kernel), List.mem_of_getElem? (i := 1050) (by decide +kernel)⟩
theorem lw_p42 : lw_okq (⟨"ShardTrailsModel", "read", "(I)Z"⟩, 15) := ⟨⟨by decide +kernel, by decide +kernel⟩, List.mem_of_getElem? (i := 779) (by decide +kernel), List.mem_of_getElem? (i := 1053) (by decide +kernel), List.mem_of_getElem? (i := 1054) (by decide +kernel)⟩
theorem lw_p43 : lw_okq (⟨"ShardTrailsModel", "areKnown", "()Z"⟩, 15) := ⟨⟨by decide +kernel, by decide +kernel⟩, List.mem_of_getElem? (i := 779) (by decide +kernel), List.mem_of_getElem? (i := 1057) (by decide +kernel), List.mem_of_getElem? (i := 1058) (by decide +kernel)⟩
theorem lw_p44 : lw_okq (⟨"ShardTrailsModel", "numberAt", "(I)I"⟩, 15) := ⟨⟨by decide +kernel, by decide +kernel⟩, List.mem_of_getElem? (i := 779) (by decide +kernel), List.mem_of_getElem? (i := 1061) (by decide +kernel), List.mem_of_getElem? (i := 1062) (by decide +kernel)⟩
theorem lw_p45 : lw_okq (⟨"ShardTrailsModel", "nextBehind", "(I)I"⟩, 15) := ⟨⟨by decide +kernel, by decide +kernel⟩, List.mem_of_getElem? (i := 779) (by decide +kernel), List.mem_of_getElem? (i := 1065) (by decide +kernel), List.mem_of_getElem? (i := 1066) (by decide +kernel)⟩
theorem lw_p46 : lw_okq (⟨"ShardTrailsModel", "heatIn", "(I)I"⟩, 15) := ⟨⟨by decide +kernel, by decide +kernel⟩, List.mem_of_getElem? (i := 779) (by decide +kernel), List.mem_of_getElem? (i := 1073) (by decide +kernel), List.mem_of_getElem? (i := 1074) (by decide +kernel)⟩
theorem lw_p47 : lw_okq (⟨"ShardTrailsModel", "wolvesIn", "(I)I"⟩, 15) := ⟨⟨by decide +kernel, by decide +kernel⟩, List.mem_of_getElem? (i := 779) (by decide +kernel), List.mem_of_getElem? (i := 1077) (by decide +kernel), List.mem_of_getElem? (i := 1078) (by decide +kernel)⟩
def lw_privs_3 : List (MethodName × Nat) := [(⟨"ShardTrailsModel", "latitudeOf", "(I)I"⟩, 15), (⟨"ShardTrailsModel", "season", "()I"⟩, 15), (⟨"ShardTrailsModel", "isReader", "(I)Z"⟩, 15), (⟨"ShardTrailsModel", "reachFor", "(II)I"⟩, 15), (⟨"ShardTrailsModel", "findWay", "(II)V"⟩, 15), (⟨"ShardTrailsModel", "comeTo", "(I)V"⟩, 15), (⟨"ShardTrailsModel", "stepFrom", "(II)I"⟩, 15), (⟨"ShardTrailsModel", "nextInn", "(I)I"⟩, 15), (⟨"ShardTrailsModel", "faultOf", "()I"⟩, 15), (⟨"ShardTrailsModel", "begin", "(I)V"⟩, 15), (⟨"ShardTrailsModel", "read", "(I)Z"⟩, 15), (⟨"ShardTrailsModel", "areKnown", "()Z"⟩, 15), (⟨"ShardTrailsModel", "numberAt", "(I)I"⟩, 15), (⟨"ShardTrailsModel", "nextBehind", "(I)I"⟩, 15), (⟨"ShardTrailsModel", "heatIn", "(I)I"⟩, 15), (⟨"ShardTrailsModel", "wolvesIn", "(I)I"⟩, 15)]
theorem lw_r3 : ∀ q ∈ lw_privs_3, lw_okq q := List.forall_mem_cons.mpr ⟨lw_p32, List.forall_mem_cons.mpr ⟨lw_p33, List.forall_mem_cons.mpr ⟨lw_p34, List.forall_mem_cons.mpr ⟨lw_p35, List.forall_mem_cons.mpr ⟨lw_p36, List.forall_mem_cons.mpr ⟨lw_p37, List.forall_mem_cons.mpr ⟨lw_p38, List.forall_mem_cons.mpr ⟨lw_p39, List.forall_mem_cons.mpr ⟨lw_p40, List.forall_mem_cons.mpr ⟨lw_p41, List.forall_mem_cons.mpr ⟨lw_p42, List.forall_mem_cons.mpr ⟨lw_p43, List.forall_mem_cons.mpr ⟨lw_p44, List.forall_mem_cons.mpr ⟨lw_p45, List.forall_mem_cons.mpr ⟨lw_p46, List.forall_mem_cons.mpr ⟨lw_p47, fun _ h => absurd h List.not_mem_nil⟩⟩⟩⟩⟩⟩⟩⟩⟩⟩⟩⟩⟩⟩⟩⟩
theorem lw_p48 : lw_okq (⟨"ShardTrailsModel", "tracksOf", "(I)I"⟩, 15) := ⟨⟨by decide +kernel, by decide +kernel⟩, List.mem_of_getElem? (i := 779) (by decide +kernel), List.mem_of_getElem? (i := 1089) (by decide +kernel), List.mem_of_getElem? (i := 1090) (by decide +kernel)⟩
theorem lw_p49 : lw_okq (⟨"ShardTrailsModel", "sumOf", "(I)I"⟩, 15) := ⟨⟨by decide +kernel, by decide +kernel⟩, List.mem_of_getElem? (i := 779) (by decide +kernel), List.mem_of_getElem? (i := 1093) (by decide +kernel), List.mem_of_getElem? (i := 1094) (by decide +kernel)⟩
theorem lw_p50 : lw_okq (⟨"ShardTrailsModel", "tracks", "()I"⟩, 15) := ⟨⟨by decide +kernel, by decide +kernel⟩, List.mem_of_getElem? (i := 779) (by decide +kernel), List.mem_of_getElem? (i := 1124) (by decide +kernel), List.mem_of_getElem? (i := 1125) (by decide +kernel)⟩
def lw_privs_4 : List (MethodName × Nat) := [(⟨"ShardTrailsModel", "tracksOf", "(I)I"⟩, 15), (⟨"ShardTrailsModel", "sumOf", "(I)I"⟩, 15), (⟨"ShardTrailsModel", "tracks", "()I"⟩, 15)]
theorem lw_r4 : ∀ q ∈ lw_privs_4, lw_okq q := List.forall_mem_cons.mpr ⟨lw_p48, List.forall_mem_cons.mpr ⟨lw_p49, List.forall_mem_cons.mpr ⟨lw_p50, fun _ h => absurd h List.not_mem_nil⟩⟩⟩
def lw_privs : List (MethodName × Nat) := lw_privs_1 ++ (lw_privs_2 ++ (lw_privs_3 ++ (lw_privs_4)))
def lw_tbl : List Cond := k2_sels lw_privs ++ tables_1
theorem lw_privs_ok : ∀ q ∈ lw_privs, lw_okq q := by
  show ∀ q ∈ lw_privs_1 ++ (lw_privs_2 ++ (lw_privs_3 ++ (lw_privs_4))), lw_okq q
  exact List.forall_mem_append.mpr ⟨lw_r1, List.forall_mem_append.mpr ⟨lw_r2, List.forall_mem_append.mpr ⟨lw_r3, lw_r4⟩⟩⟩
/-! ===== BEGIN words of one list among another's, by their places ===== -/
theorem goodIn_r {big : List Cond} (ws : List Cond) (ps : List Nat) (hp : ws = ps.filterMap (fun i => big[i]?)) (h : ws.all goodWord = true) : GoodIn big ws := by
  intro w hw
  have h1 := List.all_eq_true.mp h w hw
  rw [hp] at hw
  obtain ⟨i, -, hi⟩ := List.mem_filterMap.mp hw
  have hm : w ∈ big := by first | exact List.mem_of_getElem? hi | exact List.getElem?_mem hi
  exact ⟨hm, good_of_word h1⟩
theorem goodIn_app {big a b : List Cond} (ha : GoodIn big a) (hb : GoodIn big b) : GoodIn big (a ++ b) := fun w h => (List.mem_append.mp h).elim (ha w) (hb w)
theorem goodIn_ca {big a b : List Cond} {c : Cond} (ha : GoodIn big (c :: a)) (hb : GoodIn big b) : GoodIn big (c :: (a ++ b)) := fun w h => (List.mem_cons.mp h).elim (fun e => ha w (List.mem_cons.mpr (Or.inl e))) (fun h => (List.mem_append.mp h).elim (fun h => ha w (List.mem_cons.mpr (Or.inr h))) (hb w))
theorem goodIn_sub {big ws : List Cond} (hm : ∀ w ∈ ws, w ∈ big) (h : ws.all goodWord = true) : GoodIn big ws := fun w hw => ⟨hm w hw, good_of_word (List.all_eq_true.mp h w hw)⟩
/-! ===== END ===== -/

/-! ===== BEGIN printed: names, fields, word lists, decode rows ===== -/
def RX0 : String := "ShardTrails$Herd"
def TX0 : u_T := fun k => match k with
  | 0 => ("ShardTrails$Herd", "at", "[I", true)
  | 1 => ("ShardTrails$Herd", "heat", "[I", true)
  | 2 => ("ShardTrails$Herd", "moves", "[I", true)
  | _ => ("ShardTrails$Herd", "values", "[I", true)
def tyX0 : Nat → FieldType := fun k => match k with
  | 0 => .array .int
  | 1 => .array .int
  | 2 => .array .int
  | _ => .array .int
abbrev wsX00 : List Cond := u_ws RX0 TX0 4
theorem nmX0 : ∀ a, a < 4 → ∀ b, b < 4 → a ≠ b → (TX0 a).2.1 ≠ (TX0 b).2.1 := by decide +kernel
theorem tyX0_ok : ∀ k, k < 4 → parseFieldDescriptor (TX0 k).2.2.1 = some (tyX0 k) := by decide +kernel
abbrev cX0_init : ByteArray := prog_2_method_1_code
def yX0_init : MethodName := ⟨RX0, "<init>", "()V"⟩
abbrev cX0_copyFrom : ByteArray := prog_2_method_2_code
def yX0_copyFrom : MethodName := ⟨RX0, "copyFrom", "(LShardTrails$Herd;)V"⟩
abbrev cX0_cool : ByteArray := prog_2_method_3_code
def yX0_cool : MethodName := ⟨RX0, "cool", "()V"⟩
abbrev cX0_warm : ByteArray := prog_2_method_4_code
def yX0_warm : MethodName := ⟨RX0, "warm", "(II)V"⟩
abbrev cX0_isAskedBefore : ByteArray := prog_2_method_5_code
def yX0_isAskedBefore : MethodName := ⟨RX0, "isAskedBefore", "(II)Z"⟩
abbrev cX0_placeByHeat : ByteArray := prog_2_method_6_code
def yX0_placeByHeat : MethodName := ⟨RX0, "placeByHeat", "(I)I"⟩
abbrev cX0_sortByHeat : ByteArray := prog_2_method_7_code
def yX0_sortByHeat : MethodName := ⟨RX0, "sortByHeat", "([I)V"⟩
abbrev cX0_heatIn : ByteArray := prog_2_method_8_code
def yX0_heatIn : MethodName := ⟨RX0, "heatIn", "(I)I"⟩
abbrev cX0_sumOfValues : ByteArray := prog_2_method_9_code
def yX0_sumOfValues : MethodName := ⟨RX0, "sumOfValues", "(I)I"⟩
def RX1 : String := "ShardTrails$History"
def TX1 : u_T := fun k => match k with
  | 0 => ("ShardTrails$History", "number", "I", false)
  | 1 => ("ShardTrails$History", "oldest", "I", false)
  | _ => ("ShardTrails$History", "states", "[LShardTrails$State;", true)
def tyX1 : Nat → FieldType := fun k => match k with
  | 0 => .int
  | 1 => .int
  | _ => .array (.object "ShardTrails$State")
abbrev wsX10 : List Cond := u_ws RX1 TX1 3
theorem nmX1 : ∀ a, a < 3 → ∀ b, b < 3 → a ≠ b → (TX1 a).2.1 ≠ (TX1 b).2.1 := by decide +kernel
theorem tyX1_ok : ∀ k, k < 3 → parseFieldDescriptor (TX1 k).2.2.1 = some (tyX1 k) := by decide +kernel
abbrev cX1_init : ByteArray := prog_3_method_1_code
def yX1_init : MethodName := ⟨RX1, "<init>", "()V"⟩
abbrev cX1_store : ByteArray := prog_3_method_2_code
def yX1_store : MethodName := ⟨RX1, "store", "(LShardTrails$State;)V"⟩
abbrev cX1_takeBack : ByteArray := prog_3_method_3_code
def yX1_takeBack : MethodName := ⟨RX1, "takeBack", "(LShardTrails$State;)V"⟩
def RX2 : String := "ShardTrails$Land"
def TX2 : u_T := fun k => match k with
  | 0 => ("ShardTrails$Land", "number", "I", false)
  | 1 => ("ShardTrails$Land", "latitude", "[I", true)
  | 2 => ("ShardTrails$Land", "room", "[I", true)
  | 3 => ("ShardTrails$Land", "herdSize", "[I", true)
  | 4 => ("ShardTrails$Land", "sentTo", "[I", true)
  | 5 => ("ShardTrails$Land", "inn", "[Z", true)
  | _ => ("ShardTrails$Land", "posted", "[I", true)
def tyX2 : Nat → FieldType := fun k => match k with
  | 0 => .int
  | 1 => .array .int
  | 2 => .array .int
  | 3 => .array .int
  | 4 => .array .int
  | 5 => .array .boolean
  | _ => .array .int
abbrev wsX20 : List Cond := u_ws RX2 TX2 7
theorem nmX2 : ∀ a, a < 7 → ∀ b, b < 7 → a ≠ b → (TX2 a).2.1 ≠ (TX2 b).2.1 := by decide +kernel
theorem tyX2_ok : ∀ k, k < 7 → parseFieldDescriptor (TX2 k).2.2.1 = some (tyX2 k) := by decide +kernel
abbrev cX2_init : ByteArray := prog_4_method_1_code
def yX2_init : MethodName := ⟨RX2, "<init>", "()V"⟩
abbrev cX2_copyFrom : ByteArray := prog_4_method_2_code
def yX2_copyFrom : MethodName := ⟨RX2, "copyFrom", "(LShardTrails$Land;)V"⟩
abbrev cX2_found : ByteArray := prog_4_method_3_code
def yX2_found : MethodName := ⟨RX2, "found", "(IIZ)I"⟩
abbrev cX2_inns : ByteArray := prog_4_method_4_code
def yX2_inns : MethodName := ⟨RX2, "inns", "()I"⟩
abbrev cX2_hasRoom : ByteArray := prog_4_method_5_code
def yX2_hasRoom : MethodName := ⟨RX2, "hasRoom", "(I)Z"⟩
abbrev cX2_distance : ByteArray := prog_4_method_6_code
def yX2_distance : MethodName := ⟨RX2, "distance", "(II)I"⟩
abbrev cX2_forgetPosted : ByteArray := prog_4_method_7_code
def yX2_forgetPosted : MethodName := ⟨RX2, "forgetPosted", "(I)V"⟩
abbrev cX2_tellAll : ByteArray := prog_4_method_8_code
def yX2_tellAll : MethodName := ⟨RX2, "tellAll", "([I)V"⟩
abbrev cX2_bestOther : ByteArray := prog_4_method_9_code
def yX2_bestOther : MethodName := ⟨RX2, "bestOther", "(II)I"⟩
def RX3 : String := "ShardTrails$Pack"
def TX3 : u_T := fun k => match k with
  | 0 => ("ShardTrails$Pack", "number", "I", false)
  | 1 => ("ShardTrails$Pack", "at", "[I", true)
  | _ => ("ShardTrails$Pack", "stride", "[I", true)
def tyX3 : Nat → FieldType := fun k => match k with
  | 0 => .int
  | 1 => .array .int
  | _ => .array .int
abbrev wsX30 : List Cond := u_ws RX3 TX3 3
theorem nmX3 : ∀ a, a < 3 → ∀ b, b < 3 → a ≠ b → (TX3 a).2.1 ≠ (TX3 b).2.1 := by decide +kernel
theorem tyX3_ok : ∀ k, k < 3 → parseFieldDescriptor (TX3 k).2.2.1 = some (tyX3 k) := by decide +kernel
abbrev cX3_init : ByteArray := prog_5_method_1_code
def yX3_init : MethodName := ⟨RX3, "<init>", "()V"⟩
abbrev cX3_copyFrom : ByteArray := prog_5_method_2_code
def yX3_copyFrom : MethodName := ⟨RX3, "copyFrom", "(LShardTrails$Pack;)V"⟩
abbrev cX3_join : ByteArray := prog_5_method_3_code
def yX3_join : MethodName := ⟨RX3, "join", "(II)I"⟩
abbrev cX3_advance : ByteArray := prog_5_method_4_code
def yX3_advance : MethodName := ⟨RX3, "advance", "(II)V"⟩
abbrev cX3_countIn : ByteArray := prog_5_method_5_code
def yX3_countIn : MethodName := ⟨RX3, "countIn", "(I)I"⟩
def RX4 : String := "ShardTrails$Readers"
def TX4 : u_T := fun k => match k with
  | 0 => ("ShardTrails$Readers", "number", "I", false)
  | 1 => ("ShardTrails$Readers", "home", "[I", true)
  | 2 => ("ShardTrails$Readers", "requests", "[I", true)
  | 3 => ("ShardTrails$Readers", "hops", "[I", true)
  | 4 => ("ShardTrails$Readers", "cries", "[I", true)
  | 5 => ("ShardTrails$Readers", "mostHops", "[I", true)
  | _ => ("ShardTrails$Readers", "memory", "[I", true)
def tyX4 : Nat → FieldType := fun k => match k with
  | 0 => .int
  | 1 => .array .int
  | 2 => .array .int
  | 3 => .array .int
  | 4 => .array .int
  | 5 => .array .int
  | _ => .array .int
abbrev wsX40 : List Cond := u_ws RX4 TX4 7
theorem nmX4 : ∀ a, a < 7 → ∀ b, b < 7 → a ≠ b → (TX4 a).2.1 ≠ (TX4 b).2.1 := by decide +kernel
theorem tyX4_ok : ∀ k, k < 7 → parseFieldDescriptor (TX4 k).2.2.1 = some (tyX4 k) := by decide +kernel
abbrev cX4_init : ByteArray := prog_6_method_1_code
def yX4_init : MethodName := ⟨RX4, "<init>", "()V"⟩
abbrev cX4_copyFrom : ByteArray := prog_6_method_2_code
def yX4_copyFrom : MethodName := ⟨RX4, "copyFrom", "(LShardTrails$Readers;)V"⟩
abbrev cX4_join : ByteArray := prog_6_method_3_code
def yX4_join : MethodName := ⟨RX4, "join", "(I)I"⟩
abbrev cX4_note : ByteArray := prog_6_method_4_code
def yX4_note : MethodName := ⟨RX4, "note", "(IIILShardTrails$Route;)V"⟩
def RX5 : String := "ShardTrails$RequestText"
def TX5 : u_T := fun k => match k with
  | 0 => ("ShardTrails$RequestText", "length", "I", false)
  | 1 => ("ShardTrails$RequestText", "number", "I", false)
  | 2 => ("ShardTrails$RequestText", "readers", "[I", true)
  | 3 => ("ShardTrails$RequestText", "keys", "[I", true)
  | 4 => ("ShardTrails$RequestText", "values", "[I", true)
  | 5 => ("ShardTrails$RequestText", "characters", "[C", true)
  | _ => ("ShardTrails$RequestText", "next", "I", false)
def tyX5 : Nat → FieldType := fun k => match k with
  | 0 => .int
  | 1 => .int
  | 2 => .array .int
  | 3 => .array .int
  | 4 => .array .int
  | 5 => .array .char
  | _ => .int
abbrev wsX50 : List Cond := u_ws RX5 TX5 7
theorem nmX5 : ∀ a, a < 7 → ∀ b, b < 7 → a ≠ b → (TX5 a).2.1 ≠ (TX5 b).2.1 := by decide +kernel
theorem tyX5_ok : ∀ k, k < 7 → parseFieldDescriptor (TX5 k).2.2.1 = some (tyX5 k) := by decide +kernel
abbrev cX5_init : ByteArray := prog_7_method_1_code
def yX5_init : MethodName := ⟨RX5, "<init>", "()V"⟩
abbrev cX5_append : ByteArray := prog_7_method_2_code
def yX5_append : MethodName := ⟨RX5, "append", "(C)V"⟩
abbrev cX5_parse : ByteArray := prog_7_method_3_code
def yX5_parse : MethodName := ⟨RX5, "parse", "()I"⟩
abbrev cX5_parseRequest : ByteArray := prog_7_method_4_code
def yX5_parseRequest : MethodName := ⟨RX5, "parseRequest", "(I)Z"⟩
abbrev cX5_parseNumber : ByteArray := prog_7_method_5_code
def yX5_parseNumber : MethodName := ⟨RX5, "parseNumber", "(I)I"⟩
abbrev cX5_skip : ByteArray := prog_7_method_6_code
def yX5_skip : MethodName := ⟨RX5, "skip", "(C)Z"⟩
abbrev cX5_isDigit : ByteArray := prog_7_method_7_code
def yX5_isDigit : MethodName := ⟨RX5, "isDigit", "()Z"⟩
abbrev cX5_digit : ByteArray := prog_7_method_8_code
def yX5_digit : MethodName := ⟨RX5, "digit", "()I"⟩
def RX6 : String := "ShardTrails$Route"
def TX6 : u_T := fun k => match k with
  | 0 => ("ShardTrails$Route", "hops", "I", false)
  | 1 => ("ShardTrails$Route", "followed", "I", false)
  | 2 => ("ShardTrails$Route", "askedInns", "I", false)
  | 3 => ("ShardTrails$Route", "sentInns", "I", false)
  | 4 => ("ShardTrails$Route", "cried", "Z", false)
  | 5 => ("ShardTrails$Route", "length", "I", false)
  | 6 => ("ShardTrails$Route", "places", "[I", true)
  | 7 => ("ShardTrails$Route", "asked", "[Z", true)
  | _ => ("ShardTrails$Route", "sent", "[Z", true)
def tyX6 : Nat → FieldType := fun k => match k with
  | 0 => .int
  | 1 => .int
  | 2 => .int
  | 3 => .int
  | 4 => .boolean
  | 5 => .int
  | 6 => .array .int
  | 7 => .array .boolean
  | _ => .array .boolean
abbrev wsX60 : List Cond := u_ws RX6 TX6 9
theorem nmX6 : ∀ a, a < 9 → ∀ b, b < 9 → a ≠ b → (TX6 a).2.1 ≠ (TX6 b).2.1 := by decide +kernel
theorem tyX6_ok : ∀ k, k < 9 → parseFieldDescriptor (TX6 k).2.2.1 = some (tyX6 k) := by decide +kernel
abbrev cX6_init : ByteArray := prog_8_method_1_code
def yX6_init : MethodName := ⟨RX6, "<init>", "()V"⟩
abbrev cX6_find : ByteArray := prog_8_method_2_code
def yX6_find : MethodName := ⟨RX6, "find", "(LShardTrails$State;II)V"⟩
abbrev cX6_begin : ByteArray := prog_8_method_3_code
def yX6_begin : MethodName := ⟨RX6, "begin", "(I)V"⟩
abbrev cX6_put : ByteArray := prog_8_method_4_code
def yX6_put : MethodName := ⟨RX6, "put", "(I)V"⟩
abbrev cX6_next : ByteArray := prog_8_method_5_code
def yX6_next : MethodName := ⟨RX6, "next", "(LShardTrails$State;II)I"⟩
abbrev cX6_nearestNewInn : ByteArray := prog_8_method_6_code
def yX6_nearestNewInn : MethodName := ⟨RX6, "nearestNewInn", "(LShardTrails$Land;I)I"⟩
def RX7 : String := "ShardTrails$State"
def TX7 : u_T := fun k => match k with
  | 0 => ("ShardTrails$State", "day", "I", false)
  | 1 => ("ShardTrails$State", "cutTracks", "I", false)
  | 2 => ("ShardTrails$State", "overgrownTracks", "I", false)
  | 3 => ("ShardTrails$State", "numbers", "[I", true)
  | 4 => ("ShardTrails$State", "latitudes", "[I", true)
  | 5 => ("ShardTrails$State", "land", "LShardTrails$Land;", true)
  | 6 => ("ShardTrails$State", "tracks", "LShardTrails$Tracks;", true)
  | 7 => ("ShardTrails$State", "herd", "LShardTrails$Herd;", true)
  | 8 => ("ShardTrails$State", "pack", "LShardTrails$Pack;", true)
  | 9 => ("ShardTrails$State", "readers", "LShardTrails$Readers;", true)
  | _ => ("ShardTrails$State", "order", "[I", true)
def tyX7 : Nat → FieldType := fun k => match k with
  | 0 => .int
  | 1 => .int
  | 2 => .int
  | 3 => .array .int
  | 4 => .array .int
  | 5 => .object "ShardTrails$Land"
  | 6 => .object "ShardTrails$Tracks"
  | 7 => .object "ShardTrails$Herd"
  | 8 => .object "ShardTrails$Pack"
  | 9 => .object "ShardTrails$Readers"
  | _ => .array .int
abbrev wsX70 : List Cond := u_ws RX7 TX7 11
theorem nmX7 : ∀ a, a < 11 → ∀ b, b < 11 → a ≠ b → (TX7 a).2.1 ≠ (TX7 b).2.1 := by decide +kernel
theorem tyX7_ok : ∀ k, k < 11 → parseFieldDescriptor (TX7 k).2.2.1 = some (tyX7 k) := by decide +kernel
abbrev cX7_init : ByteArray := prog_9_method_1_code
def yX7_init : MethodName := ⟨RX7, "<init>", "()V"⟩
abbrev cX7_copyFrom : ByteArray := prog_9_method_2_code
def yX7_copyFrom : MethodName := ⟨RX7, "copyFrom", "(LShardTrails$State;)V"⟩
abbrev cX7_season : ByteArray := prog_9_method_3_code
def yX7_season : MethodName := ⟨RX7, "season", "()I"⟩
abbrev cX7_seasonLatitude : ByteArray := prog_9_method_4_code
def yX7_seasonLatitude : MethodName := ⟨RX7, "seasonLatitude", "()I"⟩
abbrev cX7_passDay : ByteArray := prog_9_method_5_code
def yX7_passDay : MethodName := ⟨RX7, "passDay", "()I"⟩
abbrev cX7_passDayOfHerd : ByteArray := prog_9_method_6_code
def yX7_passDayOfHerd : MethodName := ⟨RX7, "passDayOfHerd", "()V"⟩
abbrev cX7_letWolvesGo : ByteArray := prog_9_method_7_code
def yX7_letWolvesGo : MethodName := ⟨RX7, "letWolvesGo", "()V"⟩
abbrev cX7_letWolfCut : ByteArray := prog_9_method_8_code
def yX7_letWolfCut : MethodName := ⟨RX7, "letWolfCut", "(I)I"⟩
abbrev cX7_tracksInReach : ByteArray := prog_9_method_9_code
def yX7_tracksInReach : MethodName := ⟨RX7, "tracksInReach", "(I)I"⟩
abbrev cX7_letTracksGrowOver : ByteArray := prog_9_method_10_code
def yX7_letTracksGrowOver : MethodName := ⟨RX7, "letTracksGrowOver", "()V"⟩
abbrev cX7_driveHerd : ByteArray := prog_9_method_11_code
def yX7_driveHerd : MethodName := ⟨RX7, "driveHerd", "()I"⟩
abbrev cX7_drive : ByteArray := prog_9_method_12_code
def yX7_drive : MethodName := ⟨RX7, "drive", "(II)V"⟩
abbrev cX7_letInnsPostOnTheirDay : ByteArray := prog_9_method_13_code
def yX7_letInnsPostOnTheirDay : MethodName := ⟨RX7, "letInnsPostOnTheirDay", "()V"⟩
abbrev cX7_letInnsPost : ByteArray := prog_9_method_14_code
def yX7_letInnsPost : MethodName := ⟨RX7, "letInnsPost", "()V"⟩
abbrev cX7_noteRequest : ByteArray := prog_9_method_15_code
def yX7_noteRequest : MethodName := ⟨RX7, "noteRequest", "(IILShardTrails$Route;)V"⟩
def RX8 : String := "ShardTrails$Tracks"
def TX8 : u_T := fun k => match k with
  | 0 => ("ShardTrails$Tracks", "leadsTo", "[I", true)
  | _ => ("ShardTrails$Tracks", "leftOn", "[I", true)
def tyX8 : Nat → FieldType := fun k => match k with
  | 0 => .array .int
  | _ => .array .int
abbrev wsX80 : List Cond := u_ws RX8 TX8 2
theorem nmX8 : ∀ a, a < 2 → ∀ b, b < 2 → a ≠ b → (TX8 a).2.1 ≠ (TX8 b).2.1 := by decide +kernel
theorem tyX8_ok : ∀ k, k < 2 → parseFieldDescriptor (TX8 k).2.2.1 = some (tyX8 k) := by decide +kernel
abbrev cX8_init : ByteArray := prog_10_method_1_code
def yX8_init : MethodName := ⟨RX8, "<init>", "()V"⟩
abbrev cX8_copyFrom : ByteArray := prog_10_method_2_code
def yX8_copyFrom : MethodName := ⟨RX8, "copyFrom", "(LShardTrails$Tracks;)V"⟩
abbrev cX8_isAt : ByteArray := prog_10_method_3_code
def yX8_isAt : MethodName := ⟨RX8, "isAt", "(II)Z"⟩
abbrev cX8_leave : ByteArray := prog_10_method_4_code
def yX8_leave : MethodName := ⟨RX8, "leave", "(IIII)V"⟩
abbrev cX8_removeLeftUntil : ByteArray := prog_10_method_5_code
def yX8_removeLeftUntil : MethodName := ⟨RX8, "removeLeftUntil", "(II)I"⟩
abbrev cX8_countIn : ByteArray := prog_10_method_6_code
def yX8_countIn : MethodName := ⟨RX8, "countIn", "(I)I"⟩
abbrev cX8_countOf : ByteArray := prog_10_method_7_code
def yX8_countOf : MethodName := ⟨RX8, "countOf", "(I)I"⟩
abbrev cX8_countAll : ByteArray := prog_10_method_8_code
def yX8_countAll : MethodName := ⟨RX8, "countAll", "()I"⟩
def RX9 : String := "ShardTrails"
def TX9 : u_T := fun k => match k with
  | 0 => ("ShardTrails", "state", "LShardTrails$State;", true)
  | 1 => ("ShardTrails", "trial", "LShardTrails$State;", true)
  | 2 => ("ShardTrails", "snapshot", "LShardTrails$State;", true)
  | 3 => ("ShardTrails", "history", "LShardTrails$History;", true)
  | 4 => ("ShardTrails", "route", "LShardTrails$Route;", true)
  | 5 => ("ShardTrails", "text", "LShardTrails$RequestText;", true)
  | _ => ("ShardTrails", "hasSnapshot", "Z", false)
def tyX9 : Nat → FieldType := fun k => match k with
  | 0 => .object "ShardTrails$State"
  | 1 => .object "ShardTrails$State"
  | 2 => .object "ShardTrails$State"
  | 3 => .object "ShardTrails$History"
  | 4 => .object "ShardTrails$Route"
  | 5 => .object "ShardTrails$RequestText"
  | _ => .boolean
abbrev wsX90 : List Cond := u_ws RX9 TX9 7
theorem nmX9 : ∀ a, a < 7 → ∀ b, b < 7 → a ≠ b → (TX9 a).2.1 ≠ (TX9 b).2.1 := by decide +kernel
theorem tyX9_ok : ∀ k, k < 7 → parseFieldDescriptor (TX9 k).2.2.1 = some (tyX9 k) := by decide +kernel
abbrev cX9_init : ByteArray := prog_1_method_1_code
def yX9_init : MethodName := ⟨RX9, "<init>", "()V"⟩
abbrev cX9_addPasture : ByteArray := prog_1_method_2_code
def yX9_addPasture : MethodName := ⟨RX9, "addPasture", "(IIZ)I"⟩
abbrev cX9_setRoom : ByteArray := prog_1_method_3_code
def yX9_setRoom : MethodName := ⟨RX9, "setRoom", "(II)I"⟩
abbrev cX9_setInn : ByteArray := prog_1_method_4_code
def yX9_setInn : MethodName := ⟨RX9, "setInn", "(IZ)I"⟩
abbrev cX9_addWolf : ByteArray := prog_1_method_5_code
def yX9_addWolf : MethodName := ⟨RX9, "addWolf", "(II)I"⟩
abbrev cX9_driveWolf : ByteArray := prog_1_method_6_code
def yX9_driveWolf : MethodName := ⟨RX9, "driveWolf", "()I"⟩
abbrev cX9_addReader : ByteArray := prog_1_method_7_code
def yX9_addReader : MethodName := ⟨RX9, "addReader", "(I)I"⟩
abbrev cX9_setSeason : ByteArray := prog_1_method_8_code
def yX9_setSeason : MethodName := ⟨RX9, "setSeason", "(II)I"⟩
abbrev cX9_set : ByteArray := prog_1_method_9_code
def yX9_set : MethodName := ⟨RX9, "set", "(II)I"⟩
abbrev cX9_pass : ByteArray := prog_1_method_10_code
def yX9_pass : MethodName := ⟨RX9, "pass", "(I)I"⟩
abbrev cX9_move : ByteArray := prog_1_method_11_code
def yX9_move : MethodName := ⟨RX9, "move", "(II)I"⟩
abbrev cX9_post : ByteArray := prog_1_method_12_code
def yX9_post : MethodName := ⟨RX9, "post", "()I"⟩
abbrev cX9_cut : ByteArray := prog_1_method_13_code
def yX9_cut : MethodName := ⟨RX9, "cut", "(I)I"⟩
abbrev cX9_request : ByteArray := prog_1_method_14_code
def yX9_request : MethodName := ⟨RX9, "request", "(II)I"⟩
abbrev cX9_write : ByteArray := prog_1_method_15_code
def yX9_write : MethodName := ⟨RX9, "write", "(III)I"⟩
abbrev cX9_type : ByteArray := prog_1_method_16_code
def yX9_type : MethodName := ⟨RX9, "type", "(C)I"⟩
abbrev cX9_clearText : ByteArray := prog_1_method_17_code
def yX9_clearText : MethodName := ⟨RX9, "clearText", "()I"⟩
abbrev cX9_readRequests : ByteArray := prog_1_method_18_code
def yX9_readRequests : MethodName := ⟨RX9, "readRequests", "()I"⟩
abbrev cX9_undo : ByteArray := prog_1_method_19_code
def yX9_undo : MethodName := ⟨RX9, "undo", "()I"⟩
abbrev cX9_keep : ByteArray := prog_1_method_20_code
def yX9_keep : MethodName := ⟨RX9, "keep", "()I"⟩
abbrev cX9_restore : ByteArray := prog_1_method_21_code
def yX9_restore : MethodName := ⟨RX9, "restore", "()I"⟩
abbrev cX9_pasture : ByteArray := prog_1_method_22_code
def yX9_pasture : MethodName := ⟨RX9, "pasture", "(II)I"⟩
abbrev cX9_track : ByteArray := prog_1_method_23_code
def yX9_track : MethodName := ⟨RX9, "track", "(III)I"⟩
abbrev cX9_shard : ByteArray := prog_1_method_24_code
def yX9_shard : MethodName := ⟨RX9, "shard", "(II)I"⟩
abbrev cX9_value : ByteArray := prog_1_method_25_code
def yX9_value : MethodName := ⟨RX9, "value", "(I)I"⟩
abbrev cX9_reader : ByteArray := prog_1_method_26_code
def yX9_reader : MethodName := ⟨RX9, "reader", "(II)I"⟩
abbrev cX9_remembered : ByteArray := prog_1_method_27_code
def yX9_remembered : MethodName := ⟨RX9, "remembered", "(II)I"⟩
abbrev cX9_reach : ByteArray := prog_1_method_28_code
def yX9_reach : MethodName := ⟨RX9, "reach", "(III)I"⟩
abbrev cX9_way : ByteArray := prog_1_method_29_code
def yX9_way : MethodName := ⟨RX9, "way", "(III)I"⟩
abbrev cX9_movesIn : ByteArray := prog_1_method_30_code
def yX9_movesIn : MethodName := ⟨RX9, "movesIn", "(I)I"⟩
abbrev cX9_count : ByteArray := prog_1_method_31_code
def yX9_count : MethodName := ⟨RX9, "count", "(I)I"⟩
abbrev cX9_serve : ByteArray := prog_1_method_32_code
def yX9_serve : MethodName := ⟨RX9, "serve", "(III)I"⟩
abbrev cX9_isPasture : ByteArray := prog_1_method_33_code
def yX9_isPasture : MethodName := ⟨RX9, "isPasture", "(I)Z"⟩
abbrev cX9_isReader : ByteArray := prog_1_method_34_code
def yX9_isReader : MethodName := ⟨RX9, "isReader", "(I)Z"⟩
abbrev cX9_isShard : ByteArray := prog_1_method_35_code
def yX9_isShard : MethodName := ⟨RX9, "isShard", "(I)Z"⟩
abbrev cX9_isKey : ByteArray := prog_1_method_36_code
def yX9_isKey : MethodName := ⟨RX9, "isKey", "(I)Z"⟩
abbrev cX9_isWithin : ByteArray := prog_1_method_37_code
def yX9_isWithin : MethodName := ⟨RX9, "isWithin", "(III)Z"⟩
abbrev cX9_cell : ByteArray := prog_1_method_38_code
def yX9_cell : MethodName := ⟨RX9, "cell", "(II)I"⟩
abbrev cX9_sum : ByteArray := prog_1_method_39_code
def yX9_sum : MethodName := ⟨RX9, "sum", "([II)I"⟩
abbrev cX9_copyRow : ByteArray := prog_1_method_40_code
def yX9_copyRow : MethodName := ⟨RX9, "copyRow", "([I[I)V"⟩
def RX10 : String := "ShardTrailsModel"
def TX10 : u_T := fun k => match k with
  | 0 => ("ShardTrailsModel", "row", "[I", true)
  | 1 => ("ShardTrailsModel", "states", "I", false)
  | 2 => ("ShardTrailsModel", "isKept", "Z", false)
  | 3 => ("ShardTrailsModel", "text", "[I", true)
  | 4 => ("ShardTrailsModel", "length", "I", false)
  | 5 => ("ShardTrailsModel", "way", "[I", true)
  | 6 => ("ShardTrailsModel", "wayMany", "I", false)
  | 7 => ("ShardTrailsModel", "hops", "I", false)
  | 8 => ("ShardTrailsModel", "followed", "I", false)
  | 9 => ("ShardTrailsModel", "asked", "I", false)
  | 10 => ("ShardTrailsModel", "sent", "I", false)
  | 11 => ("ShardTrailsModel", "cried", "Z", false)
  | 12 => ("ShardTrailsModel", "part", "I", false)
  | 13 => ("ShardTrailsModel", "digits", "I", false)
  | _ => ("ShardTrailsModel", "isZero", "Z", false)
def tyX10 : Nat → FieldType := fun k => match k with
  | 0 => .array .int
  | 1 => .int
  | 2 => .boolean
  | 3 => .array .int
  | 4 => .int
  | 5 => .array .int
  | 6 => .int
  | 7 => .int
  | 8 => .int
  | 9 => .int
  | 10 => .int
  | 11 => .boolean
  | 12 => .int
  | 13 => .int
  | _ => .boolean
abbrev wsX100 : List Cond := u_ws RX10 TX10 15
theorem nmX10 : ∀ a, a < 15 → ∀ b, b < 15 → a ≠ b → (TX10 a).2.1 ≠ (TX10 b).2.1 := by decide +kernel
theorem tyX10_ok : ∀ k, k < 15 → parseFieldDescriptor (TX10 k).2.2.1 = some (tyX10 k) := by decide +kernel
abbrev cX10_init : ByteArray := prog_12_method_1_code
def yX10_init : MethodName := ⟨RX10, "<init>", "()V"⟩
abbrev cX10_in : ByteArray := prog_12_method_2_code
def yX10_in : MethodName := ⟨RX10, "in", "(III)Z"⟩
abbrev cX10_copy : ByteArray := prog_12_method_3_code
def yX10_copy : MethodName := ⟨RX10, "copy", "(II)V"⟩
abbrev cX10_record : ByteArray := prog_12_method_4_code
def yX10_record : MethodName := ⟨RX10, "record", "()V"⟩
abbrev cX10_undo : ByteArray := prog_12_method_5_code
def yX10_undo : MethodName := ⟨RX10, "undo", "()I"⟩
abbrev cX10_keep : ByteArray := prog_12_method_6_code
def yX10_keep : MethodName := ⟨RX10, "keep", "()I"⟩
abbrev cX10_restore : ByteArray := prog_12_method_7_code
def yX10_restore : MethodName := ⟨RX10, "restore", "()I"⟩
abbrev cX10_isPasture : ByteArray := prog_12_method_8_code
def yX10_isPasture : MethodName := ⟨RX10, "isPasture", "(I)Z"⟩
abbrev cX10_isShard : ByteArray := prog_12_method_9_code
def yX10_isShard : MethodName := ⟨RX10, "isShard", "(I)Z"⟩
abbrev cX10_latitudeOf : ByteArray := prog_12_method_10_code
def yX10_latitudeOf : MethodName := ⟨RX10, "latitudeOf", "(I)I"⟩
abbrev cX10_roomOf : ByteArray := prog_12_method_11_code
def yX10_roomOf : MethodName := ⟨RX10, "roomOf", "(I)I"⟩
abbrev cX10_hasInn : ByteArray := prog_12_method_12_code
def yX10_hasInn : MethodName := ⟨RX10, "hasInn", "(I)Z"⟩
abbrev cX10_shardsIn : ByteArray := prog_12_method_13_code
def yX10_shardsIn : MethodName := ⟨RX10, "shardsIn", "(I)I"⟩
abbrev cX10_inns : ByteArray := prog_12_method_14_code
def yX10_inns : MethodName := ⟨RX10, "inns", "()I"⟩
abbrev cX10_addPasture : ByteArray := prog_12_method_15_code
def yX10_addPasture : MethodName := ⟨RX10, "addPasture", "(IIZ)I"⟩
abbrev cX10_setRoom : ByteArray := prog_12_method_16_code
def yX10_setRoom : MethodName := ⟨RX10, "setRoom", "(II)I"⟩
abbrev cX10_setInn : ByteArray := prog_12_method_17_code
def yX10_setInn : MethodName := ⟨RX10, "setInn", "(IZ)I"⟩
abbrev cX10_addWolf : ByteArray := prog_12_method_18_code
def yX10_addWolf : MethodName := ⟨RX10, "addWolf", "(II)I"⟩
abbrev cX10_driveWolf : ByteArray := prog_12_method_19_code
def yX10_driveWolf : MethodName := ⟨RX10, "driveWolf", "()I"⟩
abbrev cX10_addReader : ByteArray := prog_12_method_20_code
def yX10_addReader : MethodName := ⟨RX10, "addReader", "(I)I"⟩
abbrev cX10_put : ByteArray := prog_12_method_21_code
def yX10_put : MethodName := ⟨RX10, "put", "(II)I"⟩
abbrev cX10_setSeason : ByteArray := prog_12_method_22_code
def yX10_setSeason : MethodName := ⟨RX10, "setSeason", "(II)I"⟩
abbrev cX10_isSetting : ByteArray := prog_12_method_23_code
def yX10_isSetting : MethodName := ⟨RX10, "isSetting", "(II)Z"⟩
abbrev cX10_set : ByteArray := prog_12_method_24_code
def yX10_set : MethodName := ⟨RX10, "set", "(II)I"⟩
abbrev cX10_season : ByteArray := prog_12_method_25_code
def yX10_season : MethodName := ⟨RX10, "season", "()I"⟩
abbrev cX10_distanceOf : ByteArray := prog_12_method_26_code
def yX10_distanceOf : MethodName := ⟨RX10, "distanceOf", "(I)I"⟩
abbrev cX10_at : ByteArray := prog_12_method_27_code
def yX10_at : MethodName := ⟨RX10, "at", "(III)I"⟩
abbrev cX10_hasTrack : ByteArray := prog_12_method_28_code
def yX10_hasTrack : MethodName := ⟨RX10, "hasTrack", "(II)Z"⟩
abbrev cX10_go : ByteArray := prog_12_method_29_code
def yX10_go : MethodName := ⟨RX10, "go", "(II)V"⟩
abbrev cX10_move : ByteArray := prog_12_method_30_code
def yX10_move : MethodName := ⟨RX10, "move", "(II)I"⟩
abbrev cX10_tracksIn : ByteArray := prog_12_method_31_code
def yX10_tracksIn : MethodName := ⟨RX10, "tracksIn", "(I)I"⟩
abbrev cX10_tracksOf : ByteArray := prog_12_method_32_code
def yX10_tracksOf : MethodName := ⟨RX10, "tracksOf", "(I)I"⟩
abbrev cX10_cutIn : ByteArray := prog_12_method_33_code
def yX10_cutIn : MethodName := ⟨RX10, "cutIn", "(I)I"⟩
abbrev cX10_cut : ByteArray := prog_12_method_34_code
def yX10_cut : MethodName := ⟨RX10, "cut", "(I)I"⟩
abbrev cX10_postAll : ByteArray := prog_12_method_35_code
def yX10_postAll : MethodName := ⟨RX10, "postAll", "()V"⟩
abbrev cX10_post : ByteArray := prog_12_method_36_code
def yX10_post : MethodName := ⟨RX10, "post", "()I"⟩
abbrev cX10_roam : ByteArray := prog_12_method_37_code
def yX10_roam : MethodName := ⟨RX10, "roam", "()V"⟩
abbrev cX10_grow : ByteArray := prog_12_method_38_code
def yX10_grow : MethodName := ⟨RX10, "grow", "()V"⟩
abbrev cX10_orderOf : ByteArray := prog_12_method_39_code
def yX10_orderOf : MethodName := ⟨RX10, "orderOf", "(I)I"⟩
abbrev cX10_lookedAt : ByteArray := prog_12_method_40_code
def yX10_lookedAt : MethodName := ⟨RX10, "lookedAt", "(I)I"⟩
abbrev cX10_drive : ByteArray := prog_12_method_41_code
def yX10_drive : MethodName := ⟨RX10, "drive", "()V"⟩
abbrev cX10_passDay : ByteArray := prog_12_method_42_code
def yX10_passDay : MethodName := ⟨RX10, "passDay", "()V"⟩
abbrev cX10_pass : ByteArray := prog_12_method_43_code
def yX10_pass : MethodName := ⟨RX10, "pass", "(I)I"⟩
abbrev cX10_movesIn : ByteArray := prog_12_method_44_code
def yX10_movesIn : MethodName := ⟨RX10, "movesIn", "(I)I"⟩
abbrev cX10_isReader : ByteArray := prog_12_method_45_code
def yX10_isReader : MethodName := ⟨RX10, "isReader", "(I)Z"⟩
abbrev cX10_has : ByteArray := prog_12_method_46_code
def yX10_has : MethodName := ⟨RX10, "has", "(II)Z"⟩
abbrev cX10_bits : ByteArray := prog_12_method_47_code
def yX10_bits : MethodName := ⟨RX10, "bits", "(I)I"⟩
abbrev cX10_comeTo : ByteArray := prog_12_method_48_code
def yX10_comeTo : MethodName := ⟨RX10, "comeTo", "(I)V"⟩
abbrev cX10_nextInn : ByteArray := prog_12_method_49_code
def yX10_nextInn : MethodName := ⟨RX10, "nextInn", "(I)I"⟩
abbrev cX10_stepFrom : ByteArray := prog_12_method_50_code
def yX10_stepFrom : MethodName := ⟨RX10, "stepFrom", "(II)I"⟩
abbrev cX10_findWay : ByteArray := prog_12_method_51_code
def yX10_findWay : MethodName := ⟨RX10, "findWay", "(II)V"⟩
abbrev cX10_isKey : ByteArray := prog_12_method_52_code
def yX10_isKey : MethodName := ⟨RX10, "isKey", "(I)Z"⟩
abbrev cX10_reachFor : ByteArray := prog_12_method_53_code
def yX10_reachFor : MethodName := ⟨RX10, "reachFor", "(II)I"⟩
abbrev cX10_request : ByteArray := prog_12_method_54_code
def yX10_request : MethodName := ⟨RX10, "request", "(II)I"⟩
abbrev cX10_write : ByteArray := prog_12_method_55_code
def yX10_write : MethodName := ⟨RX10, "write", "(III)I"⟩
abbrev cX10_type : ByteArray := prog_12_method_56_code
def yX10_type : MethodName := ⟨RX10, "type", "(C)I"⟩
abbrev cX10_clearText : ByteArray := prog_12_method_57_code
def yX10_clearText : MethodName := ⟨RX10, "clearText", "()I"⟩
abbrev cX10_begin : ByteArray := prog_12_method_58_code
def yX10_begin : MethodName := ⟨RX10, "begin", "(I)V"⟩
abbrev cX10_read : ByteArray := prog_12_method_59_code
def yX10_read : MethodName := ⟨RX10, "read", "(I)Z"⟩
abbrev cX10_faultOf : ByteArray := prog_12_method_60_code
def yX10_faultOf : MethodName := ⟨RX10, "faultOf", "()I"⟩
abbrev cX10_numberAt : ByteArray := prog_12_method_61_code
def yX10_numberAt : MethodName := ⟨RX10, "numberAt", "(I)I"⟩
abbrev cX10_nextBehind : ByteArray := prog_12_method_62_code
def yX10_nextBehind : MethodName := ⟨RX10, "nextBehind", "(I)I"⟩
abbrev cX10_areKnown : ByteArray := prog_12_method_63_code
def yX10_areKnown : MethodName := ⟨RX10, "areKnown", "()Z"⟩
abbrev cX10_readRequests : ByteArray := prog_12_method_64_code
def yX10_readRequests : MethodName := ⟨RX10, "readRequests", "()I"⟩
abbrev cX10_heatIn : ByteArray := prog_12_method_65_code
def yX10_heatIn : MethodName := ⟨RX10, "heatIn", "(I)I"⟩
abbrev cX10_wolvesIn : ByteArray := prog_12_method_66_code
def yX10_wolvesIn : MethodName := ⟨RX10, "wolvesIn", "(I)I"⟩
abbrev cX10_pasture : ByteArray := prog_12_method_67_code
def yX10_pasture : MethodName := ⟨RX10, "pasture", "(II)I"⟩
abbrev cX10_track : ByteArray := prog_12_method_68_code
def yX10_track : MethodName := ⟨RX10, "track", "(III)I"⟩
abbrev cX10_sumOf : ByteArray := prog_12_method_69_code
def yX10_sumOf : MethodName := ⟨RX10, "sumOf", "(I)I"⟩
abbrev cX10_shard : ByteArray := prog_12_method_70_code
def yX10_shard : MethodName := ⟨RX10, "shard", "(II)I"⟩
abbrev cX10_value : ByteArray := prog_12_method_71_code
def yX10_value : MethodName := ⟨RX10, "value", "(I)I"⟩
abbrev cX10_reader : ByteArray := prog_12_method_72_code
def yX10_reader : MethodName := ⟨RX10, "reader", "(II)I"⟩
abbrev cX10_remembered : ByteArray := prog_12_method_73_code
def yX10_remembered : MethodName := ⟨RX10, "remembered", "(II)I"⟩
abbrev cX10_reach : ByteArray := prog_12_method_74_code
def yX10_reach : MethodName := ⟨RX10, "reach", "(III)I"⟩
abbrev cX10_way : ByteArray := prog_12_method_75_code
def yX10_way : MethodName := ⟨RX10, "way", "(III)I"⟩
abbrev cX10_tracks : ByteArray := prog_12_method_76_code
def yX10_tracks : MethodName := ⟨RX10, "tracks", "()I"⟩
abbrev cX10_count : ByteArray := prog_12_method_77_code
def yX10_count : MethodName := ⟨RX10, "count", "(I)I"⟩
def RJx8e188 : String := "java/lang/Cloneable"
def TJx8e188 : u_T := fun k => match k with
  | _ => ("", "", "", false)
def tyJx8e188 : Nat → FieldType := fun k => match k with
  | _ => .int
abbrev wsJx8e1880 : List Cond := u_ws RJx8e188 TJx8e188 0
theorem nmJx8e188 : ∀ a, a < 0 → ∀ b, b < 0 → a ≠ b → (TJx8e188 a).2.1 ≠ (TJx8e188 b).2.1 := by decide +kernel
theorem tyJx8e188_ok : ∀ k, k < 0 → parseFieldDescriptor (TJx8e188 k).2.2.1 = some (tyJx8e188 k) := by decide +kernel
def RJ9 : String := "java/lang/Math"
def TJ9 : u_T := fun k => match k with
  | _ => ("", "", "", false)
def tyJ9 : Nat → FieldType := fun k => match k with
  | _ => .int
abbrev wsJ90 : List Cond := u_ws RJ9 TJ9 0
theorem nmJ9 : ∀ a, a < 0 → ∀ b, b < 0 → a ≠ b → (TJ9 a).2.1 ≠ (TJ9 b).2.1 := by decide +kernel
theorem tyJ9_ok : ∀ k, k < 0 → parseFieldDescriptor (TJ9 k).2.2.1 = some (tyJ9 k) := by decide +kernel
abbrev cJ9_abs_0f7a4 : ByteArray := prog_14_method_59_code
def yJ9_abs_0f7a4 : MethodName := ⟨RJ9, "abs", "(I)I"⟩
abbrev cJ9_max_7cf53 : ByteArray := prog_14_method_65_code
def yJ9_max_7cf53 : MethodName := ⟨RJ9, "max", "(II)I"⟩
abbrev cJ9_min_7cf53 : ByteArray := prog_14_method_69_code
def yJ9_min_7cf53 : MethodName := ⟨RJ9, "min", "(II)I"⟩
def RJ10 : String := "java/lang/System"
def TJ10 : u_T := fun k => match k with
  | _ => ("", "", "", false)
def tyJ10 : Nat → FieldType := fun k => match k with
  | _ => .int
abbrev wsJ100 : List Cond := u_ws RJ10 TJ10 0
theorem nmJ10 : ∀ a, a < 0 → ∀ b, b < 0 → a ≠ b → (TJ10 a).2.1 ≠ (TJ10 b).2.1 := by decide +kernel
theorem tyJ10_ok : ∀ k, k < 0 → parseFieldDescriptor (TJ10 k).2.2.1 = some (tyJ10 k) := by decide +kernel
def RJ7 : String := "java/util/Arrays"
def TJ7 : u_T := fun k => match k with
  | _ => ("", "", "", false)
def tyJ7 : Nat → FieldType := fun k => match k with
  | _ => .int
abbrev wsJ70 : List Cond := u_ws RJ7 TJ7 0
theorem nmJ7 : ∀ a, a < 0 → ∀ b, b < 0 → a ≠ b → (TJ7 a).2.1 ≠ (TJ7 b).2.1 := by decide +kernel
theorem tyJ7_ok : ∀ k, k < 0 → parseFieldDescriptor (TJ7 k).2.2.1 = some (tyJ7 k) := by decide +kernel
abbrev cJ7_fill_53178 : ByteArray := prog_16_method_103_code
def yJ7_fill_53178 : MethodName := ⟨RJ7, "fill", "([II)V"⟩
def RL : String := "ShardTrailsLaw"
abbrev cL_law : ByteArray := code
def yL_law : MethodName := ⟨RL, "law", "([I)Z"⟩
abbrev vwCl : List vw_C := [(RX0, TX0, 4), (RX1, TX1, 3), (RX2, TX2, 7), (RX3, TX3, 3), (RX4, TX4, 7), (RX5, TX5, 7), (RX6, TX6, 9), (RX7, TX7, 11), (RX8, TX8, 2), (RX9, TX9, 7), (RX10, TX10, 15)]
def wsU : List Cond := lw_tbl.filter goodWord
theorem wsU_good : GoodIn wsU wsU := fun w h => ⟨h, good_of_word (List.mem_filter.mp h).2⟩
theorem wsU_at {w : Cond} (i : Nat) (h : lw_tbl[i]? = some w) (hg : goodWord w = true) : w ∈ wsU := List.mem_filter.mpr ⟨List.mem_of_getElem? h, hg⟩
theorem wsU_ats (ws : List Cond) (ps : List Nat) (hp : ps.filterMap (fun i => lw_tbl[i]?) = ws) (hg : ws.all goodWord = true) : ∀ w ∈ ws, w ∈ wsU := by
  intro w hw
  have h1 := List.all_eq_true.mp hg w hw
  rw [← hp] at hw
  obtain ⟨i, -, hi⟩ := List.mem_filterMap.mp hw
  exact wsU_at i hi h1
theorem wsU_c0 {w : Cond} (i : Nat) (h : (k2_sels lw_privs)[i]? = some w) (hg : goodWord w = true) : w ∈ wsU := List.mem_filter.mpr ⟨List.mem_append_left _ (List.mem_of_getElem? h), hg⟩
theorem wsU_c1 {w : Cond} (i : Nat) (h : tables_1_1[i]? = some w) (hg : goodWord w = true) : w ∈ wsU := List.mem_filter.mpr ⟨List.mem_append_right _ (List.mem_append_left _ (List.mem_of_getElem? h)), hg⟩
theorem wsU_c2 {w : Cond} (i : Nat) (h : tables_1_2[i]? = some w) (hg : goodWord w = true) : w ∈ wsU := List.mem_filter.mpr ⟨List.mem_append_right _ (List.mem_append_right _ (List.mem_append_left _ (List.mem_of_getElem? h))), hg⟩
theorem wsU_c3 {w : Cond} (i : Nat) (h : tables_1_3[i]? = some w) (hg : goodWord w = true) : w ∈ wsU := List.mem_filter.mpr ⟨List.mem_append_right _ (List.mem_append_right _ (List.mem_append_right _ (List.mem_append_left _ (List.mem_of_getElem? h)))), hg⟩
theorem wsU_c4 {w : Cond} (i : Nat) (h : tables_1_4[i]? = some w) (hg : goodWord w = true) : w ∈ wsU := List.mem_filter.mpr ⟨List.mem_append_right _ (List.mem_append_right _ (List.mem_append_right _ (List.mem_append_right _ (List.mem_append_left _ (List.mem_of_getElem? h))))), hg⟩
theorem wsU_c5 {w : Cond} (i : Nat) (h : tables_1_5[i]? = some w) (hg : goodWord w = true) : w ∈ wsU := List.mem_filter.mpr ⟨List.mem_append_right _ (List.mem_append_right _ (List.mem_append_right _ (List.mem_append_right _ (List.mem_append_right _ (List.mem_of_getElem? h))))), hg⟩
theorem inX0 : ∀ w ∈ wsX00, w ∈ wsU := wsU_ats _ [173, 175, 177, 179] (by decide +kernel) (by decide +kernel)
theorem inX1 : ∀ w ∈ wsX10, w ∈ wsU := wsU_ats _ [298, 300, 302] (by decide +kernel) (by decide +kernel)
theorem inX2 : ∀ w ∈ wsX20, w ∈ wsU := wsU_ats _ [122, 124, 126, 128, 130, 132, 134] (by decide +kernel) (by decide +kernel)
theorem inX3 : ∀ w ∈ wsX30, w ∈ wsU := wsU_ats _ [194, 196, 198] (by decide +kernel) (by decide +kernel)
theorem inX4 : ∀ w ∈ wsX40, w ∈ wsU := wsU_ats _ [222, 224, 226, 228, 230, 232, 234] (by decide +kernel) (by decide +kernel)
theorem inX5 : ∀ w ∈ wsX50, w ∈ wsU := wsU_ats _ [367, 369, 371, 373, 375, 377, 379] (by decide +kernel) (by decide +kernel)
theorem inX6 : ∀ w ∈ wsX60, w ∈ wsU := wsU_ats _ [330, 332, 334, 336, 338, 340, 342, 344, 346] (by decide +kernel) (by decide +kernel)
theorem inX7 : ∀ w ∈ wsX70, w ∈ wsU := wsU_ats _ [262, 264, 266, 268, 270, 272, 274, 276, 278, 280, 282] (by decide +kernel) (by decide +kernel)
theorem inX8 : ∀ w ∈ wsX80, w ∈ wsU := wsU_ats _ [151, 153] (by decide +kernel) (by decide +kernel)
theorem inX9 : ∀ w ∈ wsX90, w ∈ wsU := wsU_ats _ [390, 392, 394, 396, 398, 400, 402] (by decide +kernel) (by decide +kernel)
theorem inX10 : ∀ w ∈ wsX100, w ∈ wsU := wsU_ats _ [850, 852, 854, 856, 858, 860, 862, 864, 866, 868, 870, 872, 874, 876, 878] (by decide +kernel) (by decide +kernel)
end
section
/-! numbers: an int of the machine as a whole number -/
def zI (z : Int) : Int32 := Int32.ofInt z
abbrev inR (a : Int) : Prop := -2147483648 ≤ a ∧ a ≤ 2147483647
theorem zI_add (a b : Int) : zI a + zI b = zI (a + b) := (Int32.ofInt_add a b).symm
theorem zI_sub (a b : Int) : zI a - zI b = zI (a - b) := (Int32.ofInt_sub a b).symm
theorem zI_mul (a b : Int) : zI a * zI b = zI (a * b) := (Int32.ofInt_mul a b).symm
theorem zI_neg (a : Int) : - zI a = zI (-a) := (Int32.ofInt_neg a).symm
theorem zI_toInt {a : Int} (h : inR a) : (zI a).toInt = a := Int32.toInt_ofInt_of_le (by omega) (by omega)
theorem zI_of (x : Int32) : x = zI x.toInt := (Int32.ofInt_toInt x).symm
theorem zI_in (x : Int32) : inR x.toInt := ⟨Int32.le_toInt x, by have := Int32.toInt_lt x; omega⟩
theorem zI_lt {a b : Int} (h : inR a ∧ inR b) : zI a < zI b ↔ a < b := by rw [Int32.lt_iff_toInt_lt, zI_toInt h.1, zI_toInt h.2]
theorem zI_le {a b : Int} (h : inR a ∧ inR b) : zI a ≤ zI b ↔ a ≤ b := by rw [Int32.le_iff_toInt_le, zI_toInt h.1, zI_toInt h.2]
theorem zI_eq {a b : Int} (h : inR a ∧ inR b) : zI a = zI b ↔ a = b := ⟨fun e => by rw [← zI_toInt h.1, e, zI_toInt h.2], fun e => by rw [e]⟩
theorem zI_0 : (0 : Int32) = zI 0 := by decide +kernel
theorem zI_div {a b : Int} (h : inR a ∧ inR b) : zI a / zI b = zI (a.tdiv b) :=
  (Int32.ofInt_tdiv (show (-2147483648 : Int) ≤ a from h.1.1) (show a ≤ (2147483647 : Int) from h.1.2) (show (-2147483648 : Int) ≤ b from h.2.1) (show b ≤ (2147483647 : Int) from h.2.2)).symm
theorem zI_rem {a b : Int} (h : inR a ∧ inR b) : zI a - zI a / zI b * zI b = zI (a.tmod b) := by
  rw [zI_div h, zI_mul, zI_sub]
  congr 1
  have := Int.mul_tdiv_add_tmod a b
  rw [Int.mul_comm] at this
  omega
theorem zI_ofNat (n : Nat) : Int32.ofNat n = zI (n : Int) := Int32.ofInt_eq_ofNat.symm
theorem zI_clamp {i : Int} (h : inR i) : (zI i).toNatClampNeg = i.toNat := Int32.toNatClampNeg_ofInt_of_le (by omega) (by omega)
theorem zI_vp {i : Int} {n : Nat} (h : 0 ≤ i ∧ i < (n : Int)) (hn : n ≤ 2147483647) : vp_in (zI i) n := by
  have hr : inR i := ⟨by omega, by omega⟩
  rw [vp_in_iff, zI_toInt hr]
  exact h
theorem zI_cl {i : Int} {n : Nat} (h : 0 ≤ i ∧ i < (n : Int)) (hn : n ≤ 2147483647) : (zI i).toNatClampNeg = i.toNat := zI_clamp ⟨by omega, by omega⟩
def iand (a b : Int) : Int := (zI a &&& zI b).toInt
def ior (a b : Int) : Int := (zI a ||| zI b).toInt
def ishl (a b : Int) : Int := (zI a <<< (zI b &&& 31)).toInt
def ishr (a b : Int) : Int := (zI a >>> (zI b &&& 31)).toInt
def imin (a b : Int) : Int := if b < a then b else a
def imax (a b : Int) : Int := if a < b then b else a
def iabs (a : Int) : Int := if 0 ≤ a then a else 0 - a
theorem zI_c2 {a : Int} (h : inR a) : ((zI a).toUInt32 % 65536).toInt32 = zI (a % 65536) := by
  apply Int32.toBitVec_inj.mp
  apply BitVec.eq_of_toNat_eq
  have e1 : ((zI a).toUInt32 % 65536).toInt32.toBitVec.toNat = (BitVec.ofInt 32 a).toNat % 65536 := by
    show ((zI a).toUInt32 % 65536).toNat = _
    rw [UInt32.toNat_mod]
    rfl
  have e2 : (zI (a % 65536)).toBitVec.toNat = (BitVec.ofInt 32 (a % 65536)).toNat := rfl
  rw [e1, e2, BitVec.toNat_ofInt, BitVec.toNat_ofInt]
  omega
/-! the memory: cells by number, each a row of whole numbers -/
abbrev Mem : Type := Nat → Nat → Int
def up (f : Nat → Int) (i : Nat) (v : Int) : Nat → Int := fun j => if j = i then v else f j
def wr (M : Mem) (k i : Nat) (v : Int) : Mem := fun a => if a = k then up (M k) i v else M a
def cpf (f g : Nat → Int) (sp dp n : Nat) : Nat → Int := fun k => if dp ≤ k ∧ k < dp + n then f (sp + (k - dp)) else g k
def cpM (M : Mem) (k0 : Nat) (sp : Int) (k1 : Nat) (dp n : Int) : Mem := fun a => if a = k1 then cpf (M k0) (M k1) sp.toNat dp.toNat n.toNat else M a
/-- 0 an object of a kind, 1 a row of ints, 2 of booleans, 3 of chars, 4 of states: with kind or length -/
def layS : List (Nat × Nat) := [(0, 7), (1, 6), (1, 4), (0, 2), (1, 8), (1, 8), (1, 8), (1, 8), (2, 8), (1, 128), (0, 8), (1, 128), (1, 128), (0, 0), (1, 16), (1, 16), (1, 16), (1, 256), (0, 3), (1, 3), (1, 3), (0, 4), (1, 6), (1, 6), (1, 6), (1, 6), (1, 6), (1, 96), (1, 16)]
def layL : List (Nat × Nat) := [(0, 9)] ++ layS ++ layS ++ layS ++ [(0, 1), (4, 4)] ++ layS ++ layS ++ layS ++ layS ++ [(0, 6), (1, 137), (2, 8), (2, 8), (0, 5), (1, 16), (1, 16), (1, 16), (3, 60)] ++ [(0, 10), (1, 6097), (1, 60), (1, 160)]
def lay (k : Nat) : Nat × Nat := layL.getD k (9, 0)
def offL : List (List Nat) := [[1, 2, 3, 4], [0, 0, 1], [0, 1, 2, 3, 4, 5, 6], [0, 1, 2], [0, 1, 2, 3, 4, 5, 6], [0, 0, 1, 2, 3, 4, 0], [0, 0, 0, 0, 0, 0, 1, 2, 3], [0, 0, 0, 1, 2, 3, 10, 13, 18, 21, 28], [1, 2], [1, 30, 59, 88, 206, 210, 0], [1, 0, 0, 2, 0, 3, 0, 0, 0, 0, 0, 0, 0, 0, 0]]
def off (ci j : Nat) : Nat := (offL.getD ci []).getD j 0
def nfl (ci : Nat) : Nat := (offL.getD ci []).length
theorem lay_small : ∀ k, k < 219 → (lay k).2 ≤ 6097 := by decide +kernel
def zN : Nat := 219
def zC (cas : Nat → ClassId) (ad : Nat → Nat) (k : Nat) (f : Nat → Int) : va_E := match lay k with
  | (0, ci) => .inr (ci, (List.range (nfl ci)).map (fun j => if off ci j = 0 then .int (zI (f j)) else .ref (ad (k + off ci j))))
  | (1, n) => .inl (cas 0, n, .inl (fun j => zI (f j)))
  | (2, n) => .inl (cas 1, n, .inl (fun j => zI (f j)))
  | (3, n) => .inl (cas 2, n, .inl (fun j => zI (f j)))
  | (_, n) => .inl (cas 3, n, .inr (.inr (.inr (.inr (fun j => some (ad (k + 1 + 29 * j)))))))
theorem zC_0 {cas : Nat → ClassId} {ad : Nat → Nat} {k ci : Nat} {f : Nat → Int} (h : lay k = (0, ci)) : zC cas ad k f = .inr (ci, (List.range (nfl ci)).map (fun j => if off ci j = 0 then .int (zI (f j)) else .ref (ad (k + off ci j)))) := by simp [zC, h]
theorem zC_1 {cas : Nat → ClassId} {ad : Nat → Nat} {k n : Nat} {f : Nat → Int} (h : lay k = (1, n)) : zC cas ad k f = .inl (cas 0, n, .inl (fun j => zI (f j))) := by simp [zC, h]
theorem zC_2 {cas : Nat → ClassId} {ad : Nat → Nat} {k n : Nat} {f : Nat → Int} (h : lay k = (2, n)) : zC cas ad k f = .inl (cas 1, n, .inl (fun j => zI (f j))) := by simp [zC, h]
theorem zC_3 {cas : Nat → ClassId} {ad : Nat → Nat} {k n : Nat} {f : Nat → Int} (h : lay k = (3, n)) : zC cas ad k f = .inl (cas 2, n, .inl (fun j => zI (f j))) := by simp [zC, h]
theorem zC_4 {cas : Nat → ClassId} {ad : Nat → Nat} {k n : Nat} {f : Nat → Int} (h : lay k = (4, n)) : zC cas ad k f = .inl (cas 3, n, .inr (.inr (.inr (.inr (fun j => some (ad (k + 1 + 29 * j))))))) := by simp [zC, h]
def zG (ad : Nat → Nat) (C : Nat → va_E) : va_W := (List.range zN).map (fun k => (ad k, C k))
def zW (cas : Nat → ClassId) (ad : Nat → Nat) (M : Mem) : va_W := zG ad (fun k => zC cas ad k (M k))
theorem zG_get {ad : Nat → Nat} {C : Nat → va_E} {k : Nat} (h : k < zN) : (zG ad C)[k]? = some (ad k, C k) := by
  unfold zG
  rw [List.getElem?_map, List.getElem?_range h]
  rfl
theorem zG_set {ad : Nat → Nat} {C : Nat → va_E} {k : Nat} (h : k < zN) (x : va_E) : (zG ad C).set k (ad k, x) = zG ad (fun a => if a = k then x else C a) := by
  apply List.ext_getElem?
  intro i
  rw [List.getElem?_set]
  by_cases hi : i < zN
  · rw [zG_get hi]
    by_cases e : k = i
    · subst e
      simp [zG, hi]
    · rw [if_neg e, zG_get hi, if_neg (fun q => e q.symm)]
  · have h1 : ∀ C' : Nat → va_E, (zG ad C')[i]? = none := fun C' => List.getElem?_eq_none (by simp [zG]; omega)
    rw [if_neg (by omega), h1, h1]
theorem zW_get {cas : Nat → ClassId} {ad : Nat → Nat} {M : Mem} {k : Nat} (h : k < zN) : (zW cas ad M)[k]? = some (ad k, zC cas ad k (M k)) := zG_get h
theorem zW_set {cas : Nat → ClassId} {ad : Nat → Nat} {M : Mem} {k : Nat} (h : k < zN) {x : va_E} {f : Nat → Int} (hx : x = zC cas ad k f) : (zW cas ad M).set k (ad k, x) = zW cas ad (fun a => if a = k then f else M a) := by
  unfold zW
  rw [zG_set h, hx]
  unfold zG
  congr 1
  funext a
  by_cases e : a = k
  · subst e; simp
  · simp [e]
def zA (ad : Nat → Nat) : Nat → Prop := fun q => ∃ k, k < zN ∧ q = ad k
def zInj (ad : Nat → Nat) : Prop := ∀ i j, i < zN → j < zN → ad i = ad j → i = j
theorem zD {A : Nat → Prop} {ad : Nat → Nat} (hi : zInj ad) (hA : ∀ q, zA ad q → A q) (C : Nat → va_E) : va_D A (zG ad C) := by
  have key : ∀ (i : Nat) (p : Nat × va_E), (zG ad C)[i]? = some p → i < zN ∧ p = (ad i, C i) := by
    intro i p h
    by_cases hl : i < zN
    · rw [zG_get hl] at h; cases h; exact ⟨hl, rfl⟩
    · rw [List.getElem?_eq_none (by simp [zG]; omega)] at h; cases h
  refine ⟨fun i j p q hp hq e => ?_, fun k q hk => ?_⟩
  · obtain ⟨h1, rfl⟩ := key i p hp
    obtain ⟨h2, rfl⟩ := key j q hq
    exact hi i j h1 h2 e
  · obtain ⟨h1, rfl⟩ := key k q hk
    exact hA _ ⟨k, h1, rfl⟩
/-! what else a state must hold: array kinds, links of nest mates, the four static rows -/
def zT (cas : Nat → ClassId) : List (ClassId × FieldType) := [(cas 0, .int), (cas 1, .boolean), (cas 2, .char), (cas 3, .object "ShardTrails$State")]
def zNest : List (String × Nat × MethodName × String) := [("ShardTrails", 11, ⟨"ShardTrails$State", "<init>", "()V"⟩, "ShardTrails"), ("ShardTrails$State", 45, ⟨"ShardTrails$Herd", "<init>", "()V"⟩, "ShardTrails"), ("ShardTrails$State", 52, ⟨"ShardTrails$Pack", "<init>", "()V"⟩, "ShardTrails"), ("ShardTrails$State", 59, ⟨"ShardTrails$Readers", "<init>", "()V"⟩, "ShardTrails"), ("ShardTrails$History", 17, ⟨"ShardTrails$State", "<init>", "()V"⟩, "ShardTrails"), ("ShardTrails", 31, ⟨"ShardTrails$Route", "<init>", "()V"⟩, "ShardTrails"), ("ShardTrails", 38, ⟨"ShardTrails$RequestText", "<init>", "()V"⟩, "ShardTrails"), ("ShardTrails$State", 77, ⟨"ShardTrails", "copyRow", "([I[I)V"⟩, "ShardTrails"), ("ShardTrails$Land", 41, ⟨"ShardTrails", "copyRow", "([I[I)V"⟩, "ShardTrails"), ("ShardTrails$Tracks", 24, ⟨"ShardTrails", "copyRow", "([I[I)V"⟩, "ShardTrails"), ("ShardTrails$Herd", 24, ⟨"ShardTrails", "copyRow", "([I[I)V"⟩, "ShardTrails"), ("ShardTrails$Pack", 22, ⟨"ShardTrails", "copyRow", "([I[I)V"⟩, "ShardTrails"), ("ShardTrails$Readers", 34, ⟨"ShardTrails", "copyRow", "([I[I)V"⟩, "ShardTrails"), ("ShardTrails$Land", 51, ⟨"ShardTrails", "cell", "(II)I"⟩, "ShardTrails"), ("ShardTrails$Readers", 38, ⟨"ShardTrails", "cell", "(II)I"⟩, "ShardTrails"), ("ShardTrails$Tracks", 28, ⟨"ShardTrails", "cell", "(II)I"⟩, "ShardTrails"), ("ShardTrails$Route", 33, ⟨"ShardTrails", "cell", "(II)I"⟩, "ShardTrails")]
def zNestF : List (String × Nat × String) := [("ShardTrails$State", 9, "FIRST_NUMBERS"), ("ShardTrails$State", 23, "FIRST_LATITUDES")]
def zNW (U : State) : Prop := (∀ q ∈ zNest, va_Nw (.methodLinkNest q.1 q.2.1 q.2.2.1 q.2.2.2) U) ∧ (∀ q ∈ zNestF, va_Nw (.fieldLinkNest q.1 q.2.1 "ShardTrails" q.2.2 "[I" "ShardTrails") U) ∧ va_Nw (.castable "[I" "java/lang/Cloneable") U ∧ va_AO "ShardTrails$State" U
theorem zNW.warm {s U : State} (hW : s.WarmedH U.vm) (h : zNW s) : zNW U := ⟨fun q hq => va_Nw.warmM hW (h.1 q hq), fun q hq => va_Nw.warmF hW (h.2.1 q hq), va_Nw.warmC hW h.2.2.1, va_AO.moved hW.alike h.2.2.2⟩
def zR0 (j : Nat) : Int := [1, 1, 1, 0, 1, 0].getD j 0
def zR1 (j : Nat) : Int := [30, 60, 90, 16, 30, 100].getD j 0
def zR2 (j : Nat) : Int := [5, 10, 10, 4, 3, 20].getD j 0
def zR3 (j : Nat) : Int := [60, 40, 20, 40].getD j 0
def zSx (t N : Nat) (U : State) (H : Heap) : Prop := ∃ cell : Cell, H[t]? = some cell ∧ cell.slots.size = N ∧ U.vm.findClass "[I" = some cell.cls ∧ ∀ k, cell.vm ≠ .statics k
def zS1 (n : String) (N : Nat) (f : Nat → Int) (A : Nat → Prop) (U : State) (H : Heap) : Prop := ∃ t : Nat, va_Z "ShardTrails" n "[I" (.ref t) A U H ∧ va_T .int t N (fun j => .int (zI (f j))) A U H ∧ zSx t N U H
theorem zS1.moved {n : String} {N : Nat} {f : Nat → Int} {A : Nat → Prop} {u U : State} {H : Heap} (hvm : u.vm.Alike U.vm) (h : zS1 n N f A u H) : zS1 n N f A U H := by
  obtain ⟨t, h1, h2, cell, h3, h4, h5, h6⟩ := h
  exact ⟨t, h1.moved hvm, h2.moved hvm, cell, h3, h4, by rw [hvm.findClass]; exact h5, h6⟩
theorem zS1.kept {n : String} {N : Nat} {f : Nat → Int} {A : Nat → Prop} {U : State} {H H1 : Heap} (h : zS1 n N f A U H) (hq : ∀ a : Nat, a < H.size → ¬ A a → H1[a]? = H[a]?) : zS1 n N f A U H1 := by
  obtain ⟨t, h1, h2, cell, h3, h4, h5, h6⟩ := h
  exact ⟨t, h1.kept hq, h2.kept hq, cell, by rw [hq t (Array.getElem?_eq_some_iff.mp h3).1 h2.out]; exact h3, h4, h5, h6⟩
theorem zS1.narrow {n : String} {N : Nat} {f : Nat → Int} {A B : Nat → Prop} {U : State} {H : Heap} (h : zS1 n N f A U H) (hAB : ∀ q, B q → A q) : zS1 n N f B U H := by
  obtain ⟨t, h1, h2, h3⟩ := h
  exact ⟨t, h1.narrow hAB, h2.narrow hAB, h3⟩
def zST (A : Nat → Prop) (U : State) (H : Heap) : Prop := zS1 "LEAST_NUMBERS" 6 zR0 A U H ∧ zS1 "MOST_NUMBERS" 6 zR1 A U H ∧ zS1 "FIRST_NUMBERS" 6 zR2 A U H ∧ zS1 "FIRST_LATITUDES" 4 zR3 A U H
theorem zST.moved {A : Nat → Prop} {u U : State} {H : Heap} (hvm : u.vm.Alike U.vm) (h : zST A u H) : zST A U H := ⟨h.1.moved hvm, h.2.1.moved hvm, h.2.2.1.moved hvm, h.2.2.2.moved hvm⟩
theorem zST.kept {A : Nat → Prop} {U : State} {H H1 : Heap} (h : zST A U H) (hq : ∀ a : Nat, a < H.size → ¬ A a → H1[a]? = H[a]?) : zST A U H1 := ⟨h.1.kept hq, h.2.1.kept hq, h.2.2.1.kept hq, h.2.2.2.kept hq⟩
theorem zST.narrow {A B : Nat → Prop} {U : State} {H : Heap} (h : zST A U H) (hAB : ∀ q, B q → A q) : zST B U H := ⟨h.1.narrow hAB, h.2.1.narrow hAB, h.2.2.1.narrow hAB, h.2.2.2.narrow hAB⟩
end
section
/-! one instruction, one row: over the memory of whole numbers -/
def zX (p : Program) (s : State) (m : MethodId) (args : Array Value) (c : Code) (cc : ByteArray) (own : String) (nL : Nat) (D : va_G) (cas : Nat → ClassId) (ad : Nat → Nat) (A : Nat → Prop) : Prop :=
  p.tables.exec = Jvm.exec ∧ c.code = cc ∧ c.maxLocals = nL ∧ s.vm.findClass own = some m.cls ∧ (∀ w ∈ wsU, w.before args s = true) ∧ va_K D vwCl (zT cas) s ∧ zNW s ∧ (∀ C, va_D A (zG ad C)) ∧ (∀ q, zA ad q → A q) ∧ zST A s s.heap
def WW (p : Program) (l : Launch) (e : Env) (R : Room) (s : State) (m : MethodId) (args : Array Value) (below : List Frame) (meth : Method) (c : Code) (D : va_G) (cas : Nat → ClassId) (ad : Nat → Nat) (A : Nat → Prop) (nL k0 n0 : Nat) (Q : State → Prop) (pc : Nat) (lv : List (Nat × Value)) (st : List Value) (M : Mem) : Prop :=
  ∀ (H : Heap) (locs : List Loc) (ls : Array Slot), va_P D vwCl (zW cas ad M) H → va_S A s.heap H locs → lv_has ls nL lv → W p l e R s m args below meth c H locs k0 n0 Q (F0 m pc ls st)
theorem zgrd {α : Type} {g : Prop} {h : Decidable g} {b : Option α} {y : α} (hf : (if g then b else none) = some y) : g ∧ b = some y := by
  by_cases q : g
  · rw [if_pos q] at hf; exact ⟨q, hf⟩
  · rw [if_neg q] at hf; cases hf
def zbnd (o : Option (Int × Mem)) (g : Int → Mem → Option (Int × Mem)) : Option (Int × Mem) := match o with
  | none => none
  | some q => g q.1 q.2
theorem zbnd_some {o : Option (Int × Mem)} {g : Int → Mem → Option (Int × Mem)} {y : Int × Mem} (h : zbnd o g = some y) : ∃ r M, o = some (r, M) ∧ g r M = some y := by
  cases o with
  | none => cases h
  | some q => exact ⟨q.1, q.2, rfl, h⟩
def zlt {α β : Type} (a : α) (f : α → β) : β := f a
theorem zlt_some {α β : Type} {a : α} {f : α → Option β} {y : β} (h : zlt a f = some y) : ∃ x, x = a ∧ f x = some y := ⟨a, rfl, h⟩
theorem zthen {α : Type} {g : Prop} {h : Decidable g} {a b : Option α} {y : α} (hf : (if g then a else b) = some y) (c : g) : a = some y := by rw [if_pos c] at hf; exact hf
theorem zelse {α : Type} {g : Prop} {h : Decidable g} {a b : Option α} {y : α} (hf : (if g then a else b) = some y) (c : ¬ g) : b = some y := by rw [if_neg c] at hf; exact hf
section ZR
variable {p : Program} {l : Launch} {e : Env} {R : Room} {s : State} {m : MethodId} {args : Array Value} {below : List Frame} {meth : Method} {c : Code} {D : va_G} {cas : Nat → ClassId} {ad : Nat → Nat} {A : Nat → Prop} {nL k0 n0 : Nat} {Q : State → Prop}
variable {cc : ByteArray} {own : String} {pc : Nat} {lv : List (Nat × Value)} {st rest : List Value} {M : Mem}
theorem R_iconst (X : zX p s m args c cc own nL D cas ad A) {n : Int} (hd : decode cc pc = .ok (.iconst n, 1)) (k : WW p l e R s m args below meth c D cas ad A nL k0 n0 Q (pc + 1) lv (.int (zI n) :: st) M) : WW p l e R s m args below meth c D cas ad A nL k0 n0 Q pc lv st M :=
  fun H locs ls hP hS hl => lv_iconst X.1 X.2.1 hd rfl (k H locs ls hP hS hl)
theorem R_bipush (X : zX p s m args c cc own nL D cas ad A) {n : Int} (hd : decode cc pc = .ok (.bipush n, 2)) (hv : (Int8.ofInt n).toInt32 = zI n) (k : WW p l e R s m args below meth c D cas ad A nL k0 n0 Q (pc + 2) lv (.int (zI n) :: st) M) : WW p l e R s m args below meth c D cas ad A nL k0 n0 Q pc lv st M :=
  fun H locs ls hP hS hl => lv_bipush X.1 X.2.1 hd hv (k H locs ls hP hS hl)
theorem R_sipush (X : zX p s m args c cc own nL D cas ad A) {n : Int} (hd : decode cc pc = .ok (.sipush n, 3)) (hv : (Int16.ofInt n).toInt32 = zI n) (k : WW p l e R s m args below meth c D cas ad A nL k0 n0 Q (pc + 3) lv (.int (zI n) :: st) M) : WW p l e R s m args below meth c D cas ad A nL k0 n0 Q pc lv st M :=
  fun H locs ls hP hS hl => lv_sipush X.1 X.2.1 hd hv (k H locs ls hP hS hl)
theorem R_iload_n (X : zX p s m args c cc own nL D cas ad A) {k : Fin 4} {i : Nat} {x : Int32} (j : Nat) (hd : decode cc pc = .ok (.iload_n k, 1)) (hi : (k : Nat) = i) (hj : lv[j]? = some (i, .int x)) (kk : WW p l e R s m args below meth c D cas ad A nL k0 n0 Q (pc + 1) lv (.int x :: st) M) : WW p l e R s m args below meth c D cas ad A nL k0 n0 Q pc lv st M :=
  fun H locs ls hP hS hl => lv_iload_n X.1 X.2.1 hd hi (lv_at hl j hj) (kk H locs ls hP hS hl)
theorem R_iload (X : zX p s m args c cc own nL D cas ad A) {i : Nat} {x : Int32} (j : Nat) (hd : decode cc pc = .ok (.iload i, 2)) (hj : lv[j]? = some (i, .int x)) (kk : WW p l e R s m args below meth c D cas ad A nL k0 n0 Q (pc + 2) lv (.int x :: st) M) : WW p l e R s m args below meth c D cas ad A nL k0 n0 Q pc lv st M :=
  fun H locs ls hP hS hl => lv_iload X.1 X.2.1 hd (lv_at hl j hj) (kk H locs ls hP hS hl)
theorem R_aload_n (X : zX p s m args c cc own nL D cas ad A) {k : Fin 4} {i : Nat} {x : Nat} (j : Nat) (hd : decode cc pc = .ok (.aload_n k, 1)) (hi : (k : Nat) = i) (hj : lv[j]? = some (i, .ref x)) (kk : WW p l e R s m args below meth c D cas ad A nL k0 n0 Q (pc + 1) lv (.ref x :: st) M) : WW p l e R s m args below meth c D cas ad A nL k0 n0 Q pc lv st M :=
  fun H locs ls hP hS hl => lv_aload_n X.1 X.2.1 hd hi (lv_at hl j hj) (kk H locs ls hP hS hl)
theorem R_aload (X : zX p s m args c cc own nL D cas ad A) {i : Nat} {x : Nat} (j : Nat) (hd : decode cc pc = .ok (.aload i, 2)) (hj : lv[j]? = some (i, .ref x)) (kk : WW p l e R s m args below meth c D cas ad A nL k0 n0 Q (pc + 2) lv (.ref x :: st) M) : WW p l e R s m args below meth c D cas ad A nL k0 n0 Q pc lv st M :=
  fun H locs ls hP hS hl => lv_aload X.1 X.2.1 hd (lv_at hl j hj) (kk H locs ls hP hS hl)
theorem R_istore_n (X : zX p s m args c cc own nL D cas ad A) {k : Fin 4} {i : Nat} {x : Int32} {lv' : List (Nat × Value)} (hd : decode cc pc = .ok (.istore_n k, 1)) (hi : (k : Nat) = i) (hn : i < nL) (hl' : (i, Value.int x) :: lv.filter (fun q => !(q.1 == i) && !(q.1 + 1 == i && q.2.category == 2)) = lv') (kk : WW p l e R s m args below meth c D cas ad A nL k0 n0 Q (pc + 1) lv' st M) : WW p l e R s m args below meth c D cas ad A nL k0 n0 Q pc lv (.int x :: st) M :=
  fun H locs _ hP hS hl => lv_istore_n X.1 X.2.1 hd hi hl hn hl' (fun ls' h => kk H locs ls' hP hS h)
theorem R_istore (X : zX p s m args c cc own nL D cas ad A) {i : Nat} {x : Int32} {lv' : List (Nat × Value)} (hd : decode cc pc = .ok (.istore i, 2)) (hn : i < nL) (hl' : (i, Value.int x) :: lv.filter (fun q => !(q.1 == i) && !(q.1 + 1 == i && q.2.category == 2)) = lv') (kk : WW p l e R s m args below meth c D cas ad A nL k0 n0 Q (pc + 2) lv' st M) : WW p l e R s m args below meth c D cas ad A nL k0 n0 Q pc lv (.int x :: st) M :=
  fun H locs _ hP hS hl => lv_istore X.1 X.2.1 hd hl hn hl' (fun ls' h => kk H locs ls' hP hS h)
theorem R_iinc (X : zX p s m args c cc own nL D cas ad A) {i : Nat} {n x : Int} {lv' : List (Nat × Value)} (j : Nat) (hd : decode cc pc = .ok (.iinc i n, 3)) (hj : lv[j]? = some (i, .int (zI x))) (hn : i < nL) (hl' : (i, Value.int (zI (x + n))) :: lv.filter (fun q => !(q.1 == i) && !(q.1 + 1 == i && q.2.category == 2)) = lv') (kk : WW p l e R s m args below meth c D cas ad A nL k0 n0 Q (pc + 3) lv' st M) : WW p l e R s m args below meth c D cas ad A nL k0 n0 Q pc lv st M :=
  fun H locs _ hP hS hl => lv_iinc X.1 X.2.1 hd hl hj (zI_add x n) hn hl' (fun ls' h => kk H locs ls' hP hS h)
theorem R_sub {lv' : List (Nat × Value)} (ks : List Nat) (h : lv_pick lv ks = lv') (kk : WW p l e R s m args below meth c D cas ad A nL k0 n0 Q pc lv' st M) : WW p l e R s m args below meth c D cas ad A nL k0 n0 Q pc lv st M :=
  fun H locs ls hP hS hl => kk H locs ls hP hS (lv_sub hl ks h)
theorem R_iadd (X : zX p s m args c cc own nL D cas ad A) {a b : Int} (hd : decode cc pc = .ok (.iadd, 1)) (k : WW p l e R s m args below meth c D cas ad A nL k0 n0 Q (pc + 1) lv (.int (zI (a + b)) :: st) M) : WW p l e R s m args below meth c D cas ad A nL k0 n0 Q pc lv (.int (zI b) :: .int (zI a) :: st) M :=
  fun H locs ls hP hS hl => lv_iadd X.1 X.2.1 hd (by rw [zI_add]; exact k H locs ls hP hS hl)
theorem R_isub (X : zX p s m args c cc own nL D cas ad A) {a b : Int} (hd : decode cc pc = .ok (.isub, 1)) (k : WW p l e R s m args below meth c D cas ad A nL k0 n0 Q (pc + 1) lv (.int (zI (a - b)) :: st) M) : WW p l e R s m args below meth c D cas ad A nL k0 n0 Q pc lv (.int (zI b) :: .int (zI a) :: st) M :=
  fun H locs ls hP hS hl => lv_isub X.1 X.2.1 hd (by rw [zI_sub]; exact k H locs ls hP hS hl)
theorem R_imul (X : zX p s m args c cc own nL D cas ad A) {a b : Int} (hd : decode cc pc = .ok (.imul, 1)) (k : WW p l e R s m args below meth c D cas ad A nL k0 n0 Q (pc + 1) lv (.int (zI (a * b)) :: st) M) : WW p l e R s m args below meth c D cas ad A nL k0 n0 Q pc lv (.int (zI b) :: .int (zI a) :: st) M :=
  fun H locs ls hP hS hl => lv_imul X.1 X.2.1 hd (by rw [zI_mul]; exact k H locs ls hP hS hl)
theorem R_ineg (X : zX p s m args c cc own nL D cas ad A) {a : Int} (hd : decode cc pc = .ok (.ineg, 1)) (k : WW p l e R s m args below meth c D cas ad A nL k0 n0 Q (pc + 1) lv (.int (zI (-a)) :: st) M) : WW p l e R s m args below meth c D cas ad A nL k0 n0 Q pc lv (.int (zI a) :: st) M :=
  fun H locs ls hP hS hl => lv_ineg X.1 X.2.1 hd (by rw [zI_neg]; exact k H locs ls hP hS hl)
theorem R_idiv (X : zX p s m args c cc own nL D cas ad A) {a b : Int} (hg : (inR a ∧ inR b) ∧ b ≠ 0) (hd : decode cc pc = .ok (.idiv, 1)) (k : WW p l e R s m args below meth c D cas ad A nL k0 n0 Q (pc + 1) lv (.int (zI (a.tdiv b)) :: st) M) : WW p l e R s m args below meth c D cas ad A nL k0 n0 Q pc lv (.int (zI b) :: .int (zI a) :: st) M :=
  fun H locs ls hP hS hl => lv_idiv X.1 X.2.1 hd (fun q => hg.2 ((zI_eq ⟨hg.1.2, by decide⟩).mp (q.trans zI_0))) (by rw [zI_div hg.1]; exact k H locs ls hP hS hl)
theorem R_irem (X : zX p s m args c cc own nL D cas ad A) {a b : Int} (hg : (inR a ∧ inR b) ∧ b ≠ 0) (hd : decode cc pc = .ok (.irem, 1)) (k : WW p l e R s m args below meth c D cas ad A nL k0 n0 Q (pc + 1) lv (.int (zI (a.tmod b)) :: st) M) : WW p l e R s m args below meth c D cas ad A nL k0 n0 Q pc lv (.int (zI b) :: .int (zI a) :: st) M :=
  fun H locs ls hP hS hl => lv_irem X.1 X.2.1 hd (fun q => hg.2 ((zI_eq ⟨hg.1.2, by decide⟩).mp (q.trans zI_0))) (by rw [zI_rem hg.1]; exact k H locs ls hP hS hl)
theorem R_iand (X : zX p s m args c cc own nL D cas ad A) {a b : Int} (hd : decode cc pc = .ok (.iand, 1)) (k : WW p l e R s m args below meth c D cas ad A nL k0 n0 Q (pc + 1) lv (.int (zI (iand a b)) :: st) M) : WW p l e R s m args below meth c D cas ad A nL k0 n0 Q pc lv (.int (zI b) :: .int (zI a) :: st) M :=
  fun H locs ls hP hS hl => lv_iand X.1 X.2.1 hd (by rw [zI_of (zI a &&& zI b)]; exact k H locs ls hP hS hl)
theorem R_ior (X : zX p s m args c cc own nL D cas ad A) {a b : Int} (hd : decode cc pc = .ok (.ior, 1)) (k : WW p l e R s m args below meth c D cas ad A nL k0 n0 Q (pc + 1) lv (.int (zI (ior a b)) :: st) M) : WW p l e R s m args below meth c D cas ad A nL k0 n0 Q pc lv (.int (zI b) :: .int (zI a) :: st) M :=
  fun H locs ls hP hS hl => lv_ior X.1 X.2.1 hd (by rw [zI_of (zI a ||| zI b)]; exact k H locs ls hP hS hl)
theorem R_ishl (X : zX p s m args c cc own nL D cas ad A) {a b : Int} (hd : decode cc pc = .ok (.ishl, 1)) (k : WW p l e R s m args below meth c D cas ad A nL k0 n0 Q (pc + 1) lv (.int (zI (ishl a b)) :: st) M) : WW p l e R s m args below meth c D cas ad A nL k0 n0 Q pc lv (.int (zI b) :: .int (zI a) :: st) M :=
  fun H locs ls hP hS hl => lv_ishl X.1 X.2.1 hd (by rw [zI_of (zI a <<< (zI b &&& 31))]; exact k H locs ls hP hS hl)
theorem R_ishr (X : zX p s m args c cc own nL D cas ad A) {a b : Int} (hd : decode cc pc = .ok (.ishr, 1)) (k : WW p l e R s m args below meth c D cas ad A nL k0 n0 Q (pc + 1) lv (.int (zI (ishr a b)) :: st) M) : WW p l e R s m args below meth c D cas ad A nL k0 n0 Q pc lv (.int (zI b) :: .int (zI a) :: st) M :=
  fun H locs ls hP hS hl => lv_ishr X.1 X.2.1 hd (by rw [zI_of (zI a >>> (zI b &&& 31))]; exact k H locs ls hP hS hl)
theorem R_i2c (X : zX p s m args c cc own nL D cas ad A) {a : Int} (hg : inR a) (hd : decode cc pc = .ok (.i2c, 1)) (k : WW p l e R s m args below meth c D cas ad A nL k0 n0 Q (pc + 1) lv (.int (zI (a % 65536)) :: st) M) : WW p l e R s m args below meth c D cas ad A nL k0 n0 Q pc lv (.int (zI a) :: st) M :=
  fun H locs ls hP hS hl => lv_i2c X.1 X.2.1 hd (zI_c2 hg) (k H locs ls hP hS hl)
theorem R_dup (X : zX p s m args c cc own nL D cas ad A) {v : Value} (hd : decode cc pc = .ok (.dup, 1)) (hv : v.category = 1) (k : WW p l e R s m args below meth c D cas ad A nL k0 n0 Q (pc + 1) lv (v :: v :: st) M) : WW p l e R s m args below meth c D cas ad A nL k0 n0 Q pc lv (v :: st) M :=
  fun H locs ls hP hS hl => lv_dup X.1 X.2.1 hd hv (k H locs ls hP hS hl)
theorem R_dup2 (X : zX p s m args c cc own nL D cas ad A) {v w : Value} (hd : decode cc pc = .ok (.dup2, 1)) (hv : v.category = 1) (hw : w.category = 1) (k : WW p l e R s m args below meth c D cas ad A nL k0 n0 Q (pc + 1) lv (v :: w :: v :: w :: st) M) : WW p l e R s m args below meth c D cas ad A nL k0 n0 Q pc lv (v :: w :: st) M :=
  fun H locs ls hP hS hl => lv_dup2_11 X.1 X.2.1 hd hv hw (k H locs ls hP hS hl)
theorem R_dup_x1 (X : zX p s m args c cc own nL D cas ad A) {v w : Value} (hd : decode cc pc = .ok (.dup_x1, 1)) (hv : v.category = 1) (hw : w.category = 1) (k : WW p l e R s m args below meth c D cas ad A nL k0 n0 Q (pc + 1) lv (v :: w :: v :: st) M) : WW p l e R s m args below meth c D cas ad A nL k0 n0 Q pc lv (v :: w :: st) M :=
  fun H locs ls hP hS hl => lv_dup_x1 X.1 X.2.1 hd hv hw (k H locs ls hP hS hl)
theorem R_pop (X : zX p s m args c cc own nL D cas ad A) {v : Value} (hd : decode cc pc = .ok (.pop, 1)) (hv : v.category = 1) (k : WW p l e R s m args below meth c D cas ad A nL k0 n0 Q (pc + 1) lv st M) : WW p l e R s m args below meth c D cas ad A nL k0 n0 Q pc lv (v :: st) M :=
  fun H locs ls hP hS hl => lv_pop X.1 X.2.1 hd hv (k H locs ls hP hS hl)
theorem R_goto (X : zX p s m args c cc own nL D cas ad A) {o : Int} (tgt : Nat) (hd : decode cc pc = .ok (.goto o, 3)) (ht : (pc : Int) + o = (tgt : Int)) (k : WW p l e R s m args below meth c D cas ad A nL k0 n0 Q tgt lv st M) : WW p l e R s m args below meth c D cas ad A nL k0 n0 Q pc lv st M :=
  fun H locs ls hP hS hl => lv_goto X.1 X.2.1 hd ht (k H locs ls hP hS hl)
theorem zI_r0 : inR 0 := by decide
theorem zI_eq0 {a : Int} (h : inR a) : zI a = 0 ↔ a = 0 := by rw [zI_0]; exact zI_eq ⟨h, zI_r0⟩
theorem zI_lt0 {a : Int} (h : inR a) : zI a < 0 ↔ a < 0 := by rw [zI_0]; exact zI_lt ⟨h, zI_r0⟩
theorem zI_le0 {a : Int} (h : inR a) : zI a ≤ 0 ↔ a ≤ 0 := by rw [zI_0]; exact zI_le ⟨h, zI_r0⟩
theorem zI_ge0 {a : Int} (h : inR a) : 0 ≤ zI a ↔ 0 ≤ a := by rw [zI_0]; exact zI_le ⟨zI_r0, h⟩
theorem zI_gt0 {a : Int} (h : inR a) : 0 < zI a ↔ 0 < a := by rw [zI_0]; exact zI_lt ⟨zI_r0, h⟩
theorem R_icmp_eq (X : zX p s m args c cc own nL D cas ad A) {a b : Int} {o : Int} (tgt : Nat) (hg : inR a ∧ inR b) (hd : decode cc pc = .ok (.if_icmp .eq o, 3)) (ht : (pc : Int) + o = (tgt : Int)) (kt : a = b → WW p l e R s m args below meth c D cas ad A nL k0 n0 Q tgt lv st M) (kf : ¬ (a = b) → WW p l e R s m args below meth c D cas ad A nL k0 n0 Q (pc + 3) lv st M) : WW p l e R s m args below meth c D cas ad A nL k0 n0 Q pc lv (.int (zI b) :: .int (zI a) :: st) M :=
  fun H locs ls hP hS hl => lv_icmp_eq X.1 X.2.1 hd ht (fun q => kt ((zI_eq hg).mp q) H locs ls hP hS hl) (fun q => kf (fun z => q ((zI_eq hg).mpr z)) H locs ls hP hS hl)
theorem R_icmp_ne (X : zX p s m args c cc own nL D cas ad A) {a b : Int} {o : Int} (tgt : Nat) (hg : inR a ∧ inR b) (hd : decode cc pc = .ok (.if_icmp .ne o, 3)) (ht : (pc : Int) + o = (tgt : Int)) (kt : ¬ (a = b) → WW p l e R s m args below meth c D cas ad A nL k0 n0 Q tgt lv st M) (kf : a = b → WW p l e R s m args below meth c D cas ad A nL k0 n0 Q (pc + 3) lv st M) : WW p l e R s m args below meth c D cas ad A nL k0 n0 Q pc lv (.int (zI b) :: .int (zI a) :: st) M :=
  fun H locs ls hP hS hl => lv_icmp_ne X.1 X.2.1 hd ht (fun q => kt (fun z => q ((zI_eq hg).mpr z)) H locs ls hP hS hl) (fun q => kf ((zI_eq hg).mp q) H locs ls hP hS hl)
theorem R_icmp_lt (X : zX p s m args c cc own nL D cas ad A) {a b : Int} {o : Int} (tgt : Nat) (hg : inR a ∧ inR b) (hd : decode cc pc = .ok (.if_icmp .lt o, 3)) (ht : (pc : Int) + o = (tgt : Int)) (kt : a < b → WW p l e R s m args below meth c D cas ad A nL k0 n0 Q tgt lv st M) (kf : ¬ (a < b) → WW p l e R s m args below meth c D cas ad A nL k0 n0 Q (pc + 3) lv st M) : WW p l e R s m args below meth c D cas ad A nL k0 n0 Q pc lv (.int (zI b) :: .int (zI a) :: st) M :=
  fun H locs ls hP hS hl => lv_icmp_lt X.1 X.2.1 hd ht (fun q => kt ((zI_lt hg).mp q) H locs ls hP hS hl) (fun q => kf (fun z => q ((zI_lt hg).mpr z)) H locs ls hP hS hl)
theorem R_icmp_ge (X : zX p s m args c cc own nL D cas ad A) {a b : Int} {o : Int} (tgt : Nat) (hg : inR a ∧ inR b) (hd : decode cc pc = .ok (.if_icmp .ge o, 3)) (ht : (pc : Int) + o = (tgt : Int)) (kt : b ≤ a → WW p l e R s m args below meth c D cas ad A nL k0 n0 Q tgt lv st M) (kf : ¬ (b ≤ a) → WW p l e R s m args below meth c D cas ad A nL k0 n0 Q (pc + 3) lv st M) : WW p l e R s m args below meth c D cas ad A nL k0 n0 Q pc lv (.int (zI b) :: .int (zI a) :: st) M :=
  fun H locs ls hP hS hl => lv_icmp_ge X.1 X.2.1 hd ht (fun q => kt ((zI_le ⟨hg.2, hg.1⟩).mp q) H locs ls hP hS hl) (fun q => kf (fun z => q ((zI_le ⟨hg.2, hg.1⟩).mpr z)) H locs ls hP hS hl)
theorem R_icmp_gt (X : zX p s m args c cc own nL D cas ad A) {a b : Int} {o : Int} (tgt : Nat) (hg : inR a ∧ inR b) (hd : decode cc pc = .ok (.if_icmp .gt o, 3)) (ht : (pc : Int) + o = (tgt : Int)) (kt : b < a → WW p l e R s m args below meth c D cas ad A nL k0 n0 Q tgt lv st M) (kf : ¬ (b < a) → WW p l e R s m args below meth c D cas ad A nL k0 n0 Q (pc + 3) lv st M) : WW p l e R s m args below meth c D cas ad A nL k0 n0 Q pc lv (.int (zI b) :: .int (zI a) :: st) M :=
  fun H locs ls hP hS hl => lv_icmp_gt X.1 X.2.1 hd ht (fun q => kt ((zI_lt ⟨hg.2, hg.1⟩).mp q) H locs ls hP hS hl) (fun q => kf (fun z => q ((zI_lt ⟨hg.2, hg.1⟩).mpr z)) H locs ls hP hS hl)
theorem R_icmp_le (X : zX p s m args c cc own nL D cas ad A) {a b : Int} {o : Int} (tgt : Nat) (hg : inR a ∧ inR b) (hd : decode cc pc = .ok (.if_icmp .le o, 3)) (ht : (pc : Int) + o = (tgt : Int)) (kt : a ≤ b → WW p l e R s m args below meth c D cas ad A nL k0 n0 Q tgt lv st M) (kf : ¬ (a ≤ b) → WW p l e R s m args below meth c D cas ad A nL k0 n0 Q (pc + 3) lv st M) : WW p l e R s m args below meth c D cas ad A nL k0 n0 Q pc lv (.int (zI b) :: .int (zI a) :: st) M :=
  fun H locs ls hP hS hl => lv_icmp_le X.1 X.2.1 hd ht (fun q => kt ((zI_le hg).mp q) H locs ls hP hS hl) (fun q => kf (fun z => q ((zI_le hg).mpr z)) H locs ls hP hS hl)
theorem R_if_eq (X : zX p s m args c cc own nL D cas ad A) {a : Int} {o : Int} (tgt : Nat) (hg : inR a) (hd : decode cc pc = .ok (.ifCond .eq o, 3)) (ht : (pc : Int) + o = (tgt : Int)) (kt : a = 0 → WW p l e R s m args below meth c D cas ad A nL k0 n0 Q tgt lv st M) (kf : ¬ (a = 0) → WW p l e R s m args below meth c D cas ad A nL k0 n0 Q (pc + 3) lv st M) : WW p l e R s m args below meth c D cas ad A nL k0 n0 Q pc lv (.int (zI a) :: st) M :=
  fun H locs ls hP hS hl => lv_if_eq X.1 X.2.1 hd ht (fun q => kt ((zI_eq0 hg).mp q) H locs ls hP hS hl) (fun q => kf (fun z => q ((zI_eq0 hg).mpr z)) H locs ls hP hS hl)
theorem R_if_ne (X : zX p s m args c cc own nL D cas ad A) {a : Int} {o : Int} (tgt : Nat) (hg : inR a) (hd : decode cc pc = .ok (.ifCond .ne o, 3)) (ht : (pc : Int) + o = (tgt : Int)) (kt : ¬ (a = 0) → WW p l e R s m args below meth c D cas ad A nL k0 n0 Q tgt lv st M) (kf : a = 0 → WW p l e R s m args below meth c D cas ad A nL k0 n0 Q (pc + 3) lv st M) : WW p l e R s m args below meth c D cas ad A nL k0 n0 Q pc lv (.int (zI a) :: st) M :=
  fun H locs ls hP hS hl => lv_if_ne X.1 X.2.1 hd ht (fun q => kt (fun z => q ((zI_eq0 hg).mpr z)) H locs ls hP hS hl) (fun q => kf ((zI_eq0 hg).mp q) H locs ls hP hS hl)
theorem R_if_lt (X : zX p s m args c cc own nL D cas ad A) {a : Int} {o : Int} (tgt : Nat) (hg : inR a) (hd : decode cc pc = .ok (.ifCond .lt o, 3)) (ht : (pc : Int) + o = (tgt : Int)) (kt : a < 0 → WW p l e R s m args below meth c D cas ad A nL k0 n0 Q tgt lv st M) (kf : ¬ (a < 0) → WW p l e R s m args below meth c D cas ad A nL k0 n0 Q (pc + 3) lv st M) : WW p l e R s m args below meth c D cas ad A nL k0 n0 Q pc lv (.int (zI a) :: st) M :=
  fun H locs ls hP hS hl => lv_if_lt X.1 X.2.1 hd ht (fun q => kt ((zI_lt0 hg).mp q) H locs ls hP hS hl) (fun q => kf (fun z => q ((zI_lt0 hg).mpr z)) H locs ls hP hS hl)
theorem R_if_ge (X : zX p s m args c cc own nL D cas ad A) {a : Int} {o : Int} (tgt : Nat) (hg : inR a) (hd : decode cc pc = .ok (.ifCond .ge o, 3)) (ht : (pc : Int) + o = (tgt : Int)) (kt : 0 ≤ a → WW p l e R s m args below meth c D cas ad A nL k0 n0 Q tgt lv st M) (kf : ¬ (0 ≤ a) → WW p l e R s m args below meth c D cas ad A nL k0 n0 Q (pc + 3) lv st M) : WW p l e R s m args below meth c D cas ad A nL k0 n0 Q pc lv (.int (zI a) :: st) M :=
  fun H locs ls hP hS hl => lv_if_ge X.1 X.2.1 hd ht (fun q => kt ((zI_ge0 hg).mp q) H locs ls hP hS hl) (fun q => kf (fun z => q ((zI_ge0 hg).mpr z)) H locs ls hP hS hl)
theorem R_if_gt (X : zX p s m args c cc own nL D cas ad A) {a : Int} {o : Int} (tgt : Nat) (hg : inR a) (hd : decode cc pc = .ok (.ifCond .gt o, 3)) (ht : (pc : Int) + o = (tgt : Int)) (kt : 0 < a → WW p l e R s m args below meth c D cas ad A nL k0 n0 Q tgt lv st M) (kf : ¬ (0 < a) → WW p l e R s m args below meth c D cas ad A nL k0 n0 Q (pc + 3) lv st M) : WW p l e R s m args below meth c D cas ad A nL k0 n0 Q pc lv (.int (zI a) :: st) M :=
  fun H locs ls hP hS hl => lv_if_gt X.1 X.2.1 hd ht (fun q => kt ((zI_gt0 hg).mp q) H locs ls hP hS hl) (fun q => kf (fun z => q ((zI_gt0 hg).mpr z)) H locs ls hP hS hl)
theorem R_if_le (X : zX p s m args c cc own nL D cas ad A) {a : Int} {o : Int} (tgt : Nat) (hg : inR a) (hd : decode cc pc = .ok (.ifCond .le o, 3)) (ht : (pc : Int) + o = (tgt : Int)) (kt : a ≤ 0 → WW p l e R s m args below meth c D cas ad A nL k0 n0 Q tgt lv st M) (kf : ¬ (a ≤ 0) → WW p l e R s m args below meth c D cas ad A nL k0 n0 Q (pc + 3) lv st M) : WW p l e R s m args below meth c D cas ad A nL k0 n0 Q pc lv (.int (zI a) :: st) M :=
  fun H locs ls hP hS hl => lv_if_le X.1 X.2.1 hd ht (fun q => kt ((zI_le0 hg).mp q) H locs ls hP hS hl) (fun q => kf (fun z => q ((zI_le0 hg).mpr z)) H locs ls hP hS hl)
theorem R_tableOut (X : zX p s m args c cc own nL D cas ad A) {dflt lo hi : Int} {offs : Array Int} {len : Nat} {a : Int} (tgt : Nat) (hg : inR a) (hd : decode cc pc = .ok (.tableswitch dflt lo hi offs, len)) (h : a < lo ∨ hi < a) (ht : (pc : Int) + dflt = (tgt : Int)) (k : WW p l e R s m args below meth c D cas ad A nL k0 n0 Q tgt lv st M) : WW p l e R s m args below meth c D cas ad A nL k0 n0 Q pc lv (.int (zI a) :: st) M :=
  fun H locs ls hP hS hl => lv_tableOut X.1 X.2.1 hd (by rw [zI_toInt hg]; exact h) ht (k H locs ls hP hS hl)
theorem R_tableIn (X : zX p s m args c cc own nL D cas ad A) {dflt lo hi : Int} {offs : Array Int} {len : Nat} {a v o : Int} (tgt : Nat) (hv : a = v) (hd : decode cc pc = .ok (.tableswitch dflt lo hi offs, len)) (hg : inR v) (h1 : ¬ v < lo) (h2 : ¬ hi < v) (ho : offs[(v - lo).toNat]? = some o) (ht : (pc : Int) + o = (tgt : Int)) (k : WW p l e R s m args below meth c D cas ad A nL k0 n0 Q tgt lv st M) : WW p l e R s m args below meth c D cas ad A nL k0 n0 Q pc lv (.int (zI a) :: st) M :=
  fun H locs ls hP hS hl => lv_tableIn (off := o) X.1 X.2.1 hd (by rw [hv, zI_toInt hg]; exact h1) (by rw [hv, zI_toInt hg]; exact h2) (by rw [hv, zI_toInt hg]; exact ho) ht (k H locs ls hP hS hl)
theorem zF_int {ci n j : Nat} {k : Nat} {f : Nat → Int} (hn : nfl ci = n) (hj : j < n) (h0 : off ci j = 0) : ((List.range (nfl ci)).map (fun j => if off ci j = 0 then Value.int (zI (f j)) else .ref (ad (k + off ci j))))[j]? = some (.int (zI (f j))) := by
  rw [List.getElem?_map, List.getElem?_range (by omega)]
  simp [h0]
theorem zF_ref {ci n j o : Nat} {k : Nat} {f : Nat → Int} (hn : nfl ci = n) (hj : j < n) (h0 : off ci j = o) (ho : 0 < o) : ((List.range (nfl ci)).map (fun j => if off ci j = 0 then Value.int (zI (f j)) else .ref (ad (k + off ci j))))[j]? = some (.ref (ad (k + o))) := by
  rw [List.getElem?_map, List.getElem?_range (by omega)]
  have : ¬ off ci j = 0 := by omega
  simp [this, h0]
  omega
theorem zF_set {ci n j : Nat} {k : Nat} {f : Nat → Int} {v : Int} (hn : nfl ci = n) (hj : j < n) (h0 : off ci j = 0) : ((List.range (nfl ci)).map (fun j => if off ci j = 0 then Value.int (zI (f j)) else .ref (ad (k + off ci j)))).set j (.int (zI v)) = (List.range (nfl ci)).map (fun i => if off ci i = 0 then Value.int (zI (up f j v i)) else .ref (ad (k + off ci i))) := by
  apply List.ext_getElem?
  intro i
  rw [List.getElem?_set]
  by_cases e : j = i
  · subst e
    rw [if_pos rfl, List.getElem?_map, List.getElem?_range (by omega)]
    simp [h0, up]
    omega
  · rw [if_neg e, List.getElem?_map, List.getElem?_map]
    by_cases hi : i < nfl ci
    · rw [List.getElem?_range hi]
      have e2 : ¬ i = j := fun q => e q.symm
      simp [up, e2]
    · rw [List.getElem?_eq_none (by simp; omega)]
      rfl
theorem R_getI (X : zX p s m args c cc own nL D cas ad A) {k ci j ix N : Nat} {C ref : String} {T : u_T} (hk : k < zN ∧ lay k = (0, ci)) (hc : vwCl[ci]? = some (C, T, N)) (hin : ∀ w ∈ u_ws C T N, w ∈ wsU) (hj : j < N) (hn : nfl ci = N) (h0 : off ci j = 0) (href : (T j).1 = ref) (hlink : Cond.fieldLink own ix ref (T j).2.1 (T j).2.2.1 ∈ wsU) (hd : decode cc pc = .ok (.getfield ix, 3)) (kk : WW p l e R s m args below meth c D cas ad A nL k0 n0 Q (pc + 3) lv (.int (zI (M k j)) :: st) M) : WW p l e R s m args below meth c D cas ad A nL k0 n0 Q pc lv (.ref (ad k) :: st) M := by
  obtain ⟨x1, x2, x3, x4, x5, x6, x7, x8, x9, x10⟩ := X
  intro H locs ls hP hS hl
  have he := zW_get (cas := cas) (ad := ad) (M := M) hk.1
  rw [zC_0 hk.2] at he
  exact va_get x1 x2 x5 hin x4 x6 hP k he hc j hj (x5 _ hlink) (fun x h => by rw [← href]; exact h) (zF_int hn hj h0) hd (kk H locs ls hP hS hl)
theorem R_getR (X : zX p s m args c cc own nL D cas ad A) {k ci j ix N : Nat} {C ref : String} {T : u_T} (o kt : Nat) (hk : k < zN ∧ lay k = (0, ci)) (hc : vwCl[ci]? = some (C, T, N)) (hin : ∀ w ∈ u_ws C T N, w ∈ wsU) (hj : j < N) (hn : nfl ci = N) (h0 : off ci j = o) (ho : 0 < o) (hkt : k + o = kt) (href : (T j).1 = ref) (hlink : Cond.fieldLink own ix ref (T j).2.1 (T j).2.2.1 ∈ wsU) (hd : decode cc pc = .ok (.getfield ix, 3)) (kk : WW p l e R s m args below meth c D cas ad A nL k0 n0 Q (pc + 3) lv (.ref (ad kt) :: st) M) : WW p l e R s m args below meth c D cas ad A nL k0 n0 Q pc lv (.ref (ad k) :: st) M := by
  obtain ⟨x1, x2, x3, x4, x5, x6, x7, x8, x9, x10⟩ := X
  subst hkt
  intro H locs ls hP hS hl
  have he := zW_get (cas := cas) (ad := ad) (M := M) hk.1
  rw [zC_0 hk.2] at he
  exact va_get x1 x2 x5 hin x4 x6 hP k he hc j hj (x5 _ hlink) (fun x h => by rw [← href]; exact h) (zF_ref hn hj h0 ho) hd (kk H locs ls hP hS hl)
theorem R_put (X : zX p s m args c cc own nL D cas ad A) {k ci j ix N : Nat} {C ref : String} {T : u_T} {v : Int} {ty0 : Nat → FieldType} {ty : FieldType} (hk : k < zN ∧ lay k = (0, ci)) (hc : vwCl[ci]? = some (C, T, N)) (hin : ∀ w ∈ u_ws C T N, w ∈ wsU) (hty : ∀ k, k < N → parseFieldDescriptor (T k).2.2.1 = some (ty0 k)) (hnm : ∀ a, a < N → ∀ b, b < N → a ≠ b → (T a).2.1 ≠ (T b).2.1) (hj : j < N) (hn : nfl ci = N) (h0 : off ci j = 0) (href : (T j).1 = ref) (hlink : Cond.fieldLink own ix ref (T j).2.1 (T j).2.2.1 ∈ wsU) (hfin : (T j).2.2.2 = false) (hde : parseFieldDescriptor (T j).2.2.1 = some ty) (hna : narrow ty (.int (zI v)) = .int (zI v)) (hfit : fits ty (.int (zI v)) = true) (hd : decode cc pc = .ok (.putfield ix, 3)) (kk : WW p l e R s m args below meth c D cas ad A nL k0 n0 Q (pc + 3) lv st (wr M k j v)) : WW p l e R s m args below meth c D cas ad A nL k0 n0 Q pc lv (.int (zI v) :: .ref (ad k) :: st) M := by
  obtain ⟨x1, x2, x3, x4, x5, x6, x7, x8, x9, x10⟩ := X
  intro H locs ls hP hS hl
  have he := zW_get (cas := cas) (ad := ad) (M := M) hk.1
  rw [zC_0 hk.2] at he
  refine va_put x1 x2 x5 hin ty0 hty hnm x4 x6 hP (x8 _) hS k he hc j hj (x5 _ hlink) (fun x h => by rw [← href]; exact h) hfin hde hna hfit (by simp; omega) hd (fun H1 locs1 hP1 _ hS1 => kk H1 locs1 ls ?_ hS1 hl)
  rw [zF_set hn hj h0] at hP1
  have h9 := zW_set (cas := cas) (ad := ad) (M := M) hk.1 (zC_0 (cas := cas) (ad := ad) (f := up (M k) j v) hk.2).symm
  rw [h9] at hP1
  exact hP1
theorem z_nI (v : Int) : narrow .int (.int (zI v)) = .int (zI v) := rfl
theorem z_fI (v : Int) : fits .int (.int (zI v)) = true := rfl
theorem z_nZ {v : Int} (h : v = 0 ∨ v = 1) : narrow .boolean (.int (zI v)) = .int (zI v) := by rcases h with rfl | rfl <;> decide +kernel
theorem z_fZ {v : Int} (h : v = 0 ∨ v = 1) : fits .boolean (.int (zI v)) = true := by rcases h with rfl | rfl <;> decide +kernel
theorem z_vZ {v : Int} (h : v = 0 ∨ v = 1) : vp_nar .boolean (zI v) = zI v := by rcases h with rfl | rfl <;> decide +kernel
theorem z_vC {v : Int} (h : 0 ≤ v ∧ v < 65536) : vp_nar .char (zI v) = zI v := by
  rw [vp_nar_char]
  have e : (zI v).toUInt32.toUInt16.toUInt32.toInt32 = ((zI v).toUInt32 % 65536).toInt32 := by
    congr 1
  rw [e, zI_c2 ⟨by omega, by omega⟩]
  congr 1
  omega
theorem R_iald (X : zX p s m args c cc own nL D cas ad A) {k n : Nat} {i : Int} (hk : k < zN ∧ lay k = (1, n)) (hi : 0 ≤ i ∧ i < (n : Int)) (hd : decode cc pc = .ok (.iaload, 1)) (kk : WW p l e R s m args below meth c D cas ad A nL k0 n0 Q (pc + 1) lv (.int (zI (M k i.toNat)) :: st) M) : WW p l e R s m args below meth c D cas ad A nL k0 n0 Q pc lv (.int (zI i) :: .ref (ad k) :: st) M := by
  obtain ⟨x1, x2, x3, x4, x5, x6, x7, x8, x9, x10⟩ := X
  intro H locs ls hP hS hl
  have he := zW_get (cas := cas) (ad := ad) (M := M) hk.1
  rw [zC_1 hk.2] at he
  have hs : n ≤ 2147483647 := by have := lay_small k hk.1; rw [hk.2] at this; dsimp at this; omega
  refine va_iald x1 x2 x6 hP k 0 he rfl (zI_vp hi hs) hd ?_
  rw [zI_cl hi hs]
  exact kk H locs ls hP hS hl
theorem R_zald (X : zX p s m args c cc own nL D cas ad A) {k n : Nat} {i : Int} (hk : k < zN ∧ lay k = (2, n)) (hi : 0 ≤ i ∧ i < (n : Int)) (hd : decode cc pc = .ok (.baload, 1)) (kk : WW p l e R s m args below meth c D cas ad A nL k0 n0 Q (pc + 1) lv (.int (zI (M k i.toNat)) :: st) M) : WW p l e R s m args below meth c D cas ad A nL k0 n0 Q pc lv (.int (zI i) :: .ref (ad k) :: st) M := by
  obtain ⟨x1, x2, x3, x4, x5, x6, x7, x8, x9, x10⟩ := X
  intro H locs ls hP hS hl
  have he := zW_get (cas := cas) (ad := ad) (M := M) hk.1
  rw [zC_2 hk.2] at he
  have hs : n ≤ 2147483647 := by have := lay_small k hk.1; rw [hk.2] at this; dsimp at this; omega
  refine va_zald x1 x2 x6 hP k 1 he rfl (zI_vp hi hs) hd ?_
  rw [zI_cl hi hs]
  exact kk H locs ls hP hS hl
theorem R_cald (X : zX p s m args c cc own nL D cas ad A) {k n : Nat} {i : Int} (hk : k < zN ∧ lay k = (3, n)) (hi : 0 ≤ i ∧ i < (n : Int)) (hd : decode cc pc = .ok (.caload, 1)) (kk : WW p l e R s m args below meth c D cas ad A nL k0 n0 Q (pc + 1) lv (.int (zI (M k i.toNat)) :: st) M) : WW p l e R s m args below meth c D cas ad A nL k0 n0 Q pc lv (.int (zI i) :: .ref (ad k) :: st) M := by
  obtain ⟨x1, x2, x3, x4, x5, x6, x7, x8, x9, x10⟩ := X
  intro H locs ls hP hS hl
  have he := zW_get (cas := cas) (ad := ad) (M := M) hk.1
  rw [zC_3 hk.2] at he
  have hs : n ≤ 2147483647 := by have := lay_small k hk.1; rw [hk.2] at this; dsimp at this; omega
  refine va_cald x1 x2 x6 hP k 2 he rfl (zI_vp hi hs) hd ?_
  rw [zI_cl hi hs]
  exact kk H locs ls hP hS hl
theorem R_aald (X : zX p s m args c cc own nL D cas ad A) {k n : Nat} {i : Int} (kt : Nat) (hk : k < zN ∧ lay k = (4, n)) (hi : 0 ≤ i ∧ i < (n : Int)) (hkt : k + 1 + 29 * i.toNat = kt) (hd : decode cc pc = .ok (.aaload, 1)) (kk : WW p l e R s m args below meth c D cas ad A nL k0 n0 Q (pc + 1) lv (.ref (ad kt) :: st) M) : WW p l e R s m args below meth c D cas ad A nL k0 n0 Q pc lv (.int (zI i) :: .ref (ad k) :: st) M := by
  obtain ⟨x1, x2, x3, x4, x5, x6, x7, x8, x9, x10⟩ := X
  intro H locs ls hP hS hl
  have he := zW_get (cas := cas) (ad := ad) (M := M) hk.1
  rw [zC_4 hk.2] at he
  have hs : n ≤ 2147483647 := by have := lay_small k hk.1; rw [hk.2] at this; dsimp at this; omega
  refine va_aldq x1 x2 x6 hP k 3 he rfl (zI_vp hi hs) hd ?_
  rw [zI_cl hi hs, hkt]
  exact kk H locs ls hP hS hl
theorem z_upd {f : Nat → Int} {i : Nat} {v : Int} : upd (fun j => zI (f j)) i (zI v) = fun j => zI (up f i v j) := by
  funext j
  by_cases e : j = i
  · subst e; simp [upd, up]
  · simp [upd, up, e]
theorem R_iast (X : zX p s m args c cc own nL D cas ad A) {k n : Nat} {i v : Int} (hk : k < zN ∧ lay k = (1, n)) (hi : 0 ≤ i ∧ i < (n : Int)) (hd : decode cc pc = .ok (.iastore, 1)) (kk : WW p l e R s m args below meth c D cas ad A nL k0 n0 Q (pc + 1) lv st (wr M k i.toNat v)) : WW p l e R s m args below meth c D cas ad A nL k0 n0 Q pc lv (.int (zI v) :: .int (zI i) :: .ref (ad k) :: st) M := by
  obtain ⟨x1, x2, x3, x4, x5, x6, x7, x8, x9, x10⟩ := X
  intro H locs ls hP hS hl
  have he := zW_get (cas := cas) (ad := ad) (M := M) hk.1
  rw [zC_1 hk.2] at he
  have hs : n ≤ 2147483647 := by have := lay_small k hk.1; rw [hk.2] at this; dsimp at this; omega
  refine va_iast x1 x2 x6 hP (x8 _) hS k 0 he rfl (zI_vp hi hs) hd (fun H1 locs1 hP1 _ hS1 => kk H1 locs1 ls ?_ hS1 hl)
  rw [zI_cl hi hs, z_upd] at hP1
  have h9 := zW_set (cas := cas) (ad := ad) (M := M) hk.1 (zC_1 (cas := cas) (ad := ad) (f := up (M k) i.toNat v) hk.2).symm
  rw [h9] at hP1
  exact hP1
theorem R_zast (X : zX p s m args c cc own nL D cas ad A) {k n : Nat} {i v : Int} (hk : k < zN ∧ lay k = (2, n)) (hi : 0 ≤ i ∧ i < (n : Int)) (hv : v = 0 ∨ v = 1) (hd : decode cc pc = .ok (.bastore, 1)) (kk : WW p l e R s m args below meth c D cas ad A nL k0 n0 Q (pc + 1) lv st (wr M k i.toNat v)) : WW p l e R s m args below meth c D cas ad A nL k0 n0 Q pc lv (.int (zI v) :: .int (zI i) :: .ref (ad k) :: st) M := by
  obtain ⟨x1, x2, x3, x4, x5, x6, x7, x8, x9, x10⟩ := X
  intro H locs ls hP hS hl
  have he := zW_get (cas := cas) (ad := ad) (M := M) hk.1
  rw [zC_2 hk.2] at he
  have hs : n ≤ 2147483647 := by have := lay_small k hk.1; rw [hk.2] at this; dsimp at this; omega
  refine va_zast x1 x2 x6 hP (x8 _) hS k 1 he rfl (zI_vp hi hs) hd (fun H1 locs1 hP1 _ hS1 => kk H1 locs1 ls ?_ hS1 hl)
  rw [zI_cl hi hs, z_vZ hv, z_upd] at hP1
  have h9 := zW_set (cas := cas) (ad := ad) (M := M) hk.1 (zC_2 (cas := cas) (ad := ad) (f := up (M k) i.toNat v) hk.2).symm
  rw [h9] at hP1
  exact hP1
theorem R_cast (X : zX p s m args c cc own nL D cas ad A) {k n : Nat} {i v : Int} (hk : k < zN ∧ lay k = (3, n)) (hi : 0 ≤ i ∧ i < (n : Int)) (hv : 0 ≤ v ∧ v < 65536) (hd : decode cc pc = .ok (.castore, 1)) (kk : WW p l e R s m args below meth c D cas ad A nL k0 n0 Q (pc + 1) lv st (wr M k i.toNat v)) : WW p l e R s m args below meth c D cas ad A nL k0 n0 Q pc lv (.int (zI v) :: .int (zI i) :: .ref (ad k) :: st) M := by
  obtain ⟨x1, x2, x3, x4, x5, x6, x7, x8, x9, x10⟩ := X
  intro H locs ls hP hS hl
  have he := zW_get (cas := cas) (ad := ad) (M := M) hk.1
  rw [zC_3 hk.2] at he
  have hs : n ≤ 2147483647 := by have := lay_small k hk.1; rw [hk.2] at this; dsimp at this; omega
  refine va_cast x1 x2 x6 hP (x8 _) hS k 2 he rfl (zI_vp hi hs) hd (fun H1 locs1 hP1 _ hS1 => kk H1 locs1 ls ?_ hS1 hl)
  rw [zI_cl hi hs, z_vC hv, z_upd] at hP1
  have h9 := zW_set (cas := cas) (ad := ad) (M := M) hk.1 (zC_3 (cas := cas) (ad := ad) (f := up (M k) i.toNat v) hk.2).symm
  rw [h9] at hP1
  exact hP1
theorem R_alen (X : zX p s m args c cc own nL D cas ad A) {k n : Nat} (hk : k < zN ∧ lay k = (1, n)) (hd : decode cc pc = .ok (.arraylength, 1)) (kk : WW p l e R s m args below meth c D cas ad A nL k0 n0 Q (pc + 1) lv (.int (zI (n : Int)) :: st) M) : WW p l e R s m args below meth c D cas ad A nL k0 n0 Q pc lv (.ref (ad k) :: st) M := by
  obtain ⟨x1, x2, x3, x4, x5, x6, x7, x8, x9, x10⟩ := X
  intro H locs ls hP hS hl
  have he := zW_get (cas := cas) (ad := ad) (M := M) hk.1
  rw [zC_1 hk.2] at he
  exact va_alen x1 x2 x6 hP k 0 he rfl (zI_ofNat n) hd (kk H locs ls hP hS hl)
theorem z_cpy {f g : Nat → Int} {sp dp n : Nat} : va_cpy (fun j => zI (f j)) (fun j => zI (g j)) sp dp n = fun j => zI (cpf f g sp dp n j) := by
  funext j
  unfold va_cpy cpf
  by_cases e : dp ≤ j ∧ j < dp + n
  · rw [if_pos e, if_pos e]
  · rw [if_neg e, if_neg e]
theorem R_copy (X : zX p s m args c cc own nL D cas ad A) {k1 k2 n1 n2 ix : Nat} {sp dp n : Int} (hk1 : k1 < zN ∧ lay k1 = (1, n1)) (hk2 : k2 < zN ∧ lay k2 = (1, n2)) (hg : (0 ≤ sp ∧ 0 ≤ dp ∧ 0 ≤ n) ∧ sp + n ≤ (n1 : Int) ∧ dp + n ≤ (n2 : Int)) (hlink : Cond.methodLink own ix arraycopyName ∈ wsU) (hnat : Cond.native arraycopyName ∈ wsU) (hstat : Cond.static arraycopyName ∈ wsU) (hini : Cond.initialized "java/lang/System" ∈ wsU) (hframes : 1 ≤ R.frames) (hlocals : (st.map fun v => v.category).sum + (nativeFrameWords "java/lang/System" "arraycopy" 5 + 11) ≤ R.locals) (hd : decode cc pc = .ok (.invokestatic ix, 3)) (kk : WW p l e R s m args below meth c D cas ad A nL k0 n0 Q (pc + 3) lv st (cpM M k1 sp k2 dp n)) : WW p l e R s m args below meth c D cas ad A nL k0 n0 Q pc lv (.int (zI n) :: .int (zI dp) :: .ref (ad k2) :: .int (zI sp) :: .ref (ad k1) :: st) M := by
  obtain ⟨x1, x2, x3, x4, x5, x6, x7, x8, x9, x10⟩ := X
  intro H locs ls hP hS hl
  have he1 := zW_get (cas := cas) (ad := ad) (M := M) hk1.1
  rw [zC_1 hk1.2] at he1
  have he2 := zW_get (cas := cas) (ad := ad) (M := M) hk2.1
  rw [zC_1 hk2.2] at he2
  have hs1 : n1 ≤ 6097 := by have := lay_small k1 hk1.1; rw [hk1.2] at this; exact this
  have hs2 : n2 ≤ 6097 := by have := lay_small k2 hk2.1; rw [hk2.2] at this; exact this
  have r1 : inR sp := ⟨by omega, by omega⟩
  have r2 : inR dp := ⟨by omega, by omega⟩
  have r3 : inR n := ⟨by omega, by omega⟩
  refine va_copyi x1 x2 (x3.trans hl.1.symm) x4 (x5 _ hlink) (x5 _ hnat) (x5 _ hstat) (x5 _ hini) x6 hP (x8 _) hS k1 k2 0 0 he1 he2 rfl rfl rfl (by rw [zI_lt0 r1]; omega) (by rw [zI_lt0 r2]; omega) (by rw [zI_lt0 r3]; omega) (by rw [zI_clamp r1, zI_clamp r3]; omega) (by rw [zI_clamp r2, zI_clamp r3]; omega) (fun i _ => rfl) hframes hlocals hd (fun H1 locs1 hP1 _ hS1 => kk H1 locs1 ls ?_ hS1 hl)
  rw [zI_clamp r1, zI_clamp r2, zI_clamp r3, z_cpy] at hP1
  have h9 := zW_set (cas := cas) (ad := ad) (M := M) hk2.1 (zC_1 (cas := cas) (ad := ad) (f := cpf (M k1) (M k2) sp.toNat dp.toNat n.toNat) hk2.2).symm
  rw [h9] at hP1
  exact hP1
theorem z_ite {P P' : Prop} {h : Decidable P} {h' : Decidable P'} (a b : Int) (e : P ↔ P') : (if P then zI a else zI b) = zI (if P' then a else b) := by
  by_cases q : P
  · rw [if_pos q, if_pos (e.mp q)]
  · rw [if_neg q, if_neg (fun z => q (e.mpr z))]
theorem R_mmin (X : zX p s m args c cc own nL D cas ad A) {ix : Nat} {a b : Int} (hg : inR a ∧ inR b) (hlink : Cond.methodLink own ix Lib.Math.min.name ∈ wsU) (hframes : 1 ≤ R.frames) (hlocals : (st.map fun v => v.category).sum + 13 ≤ R.locals) (hc : k0 ≤ R.cells ∧ n0 ≤ R.slots) (hd : decode cc pc = .ok (.invokestatic ix, 3)) (hw : Cond.static Lib.Math.min.name ∈ wsU ∧ Cond.initialized "java/lang/Math" ∈ wsU ∧ Cond.code Lib.Math.min.name Lib.Math.min.code 2 (some .int) ∈ wsU) (kk : WW p l e R s m args below meth c D cas ad A nL k0 n0 Q (pc + 3) lv (.int (zI (imin a b)) :: st) M) : WW p l e R s m args below meth c D cas ad A nL k0 n0 Q pc lv (.int (zI b) :: .int (zI a) :: st) M := by
  obtain ⟨x1, x2, x3, x4, x5, x6, x7, x8, x9, x10⟩ := X
  intro H locs ls hP hS hl
  refine va_mmin x1 x2 (x3.trans hl.1.symm) x4 (x5 _ hlink) (x5 _ hw.1) (x5 _ hw.2.1) (x5 _ hw.2.2) hframes hlocals hc.1 hc.2 hd ?_
  rw [z_ite b a (zI_lt ⟨hg.2, hg.1⟩)]
  exact kk H locs ls hP hS hl
theorem R_mmax (X : zX p s m args c cc own nL D cas ad A) {ix : Nat} {a b : Int} (hg : inR a ∧ inR b) (hlink : Cond.methodLink own ix Lib.Math.max.name ∈ wsU) (hframes : 1 ≤ R.frames) (hlocals : (st.map fun v => v.category).sum + 13 ≤ R.locals) (hc : k0 ≤ R.cells ∧ n0 ≤ R.slots) (hd : decode cc pc = .ok (.invokestatic ix, 3)) (hw : Cond.static Lib.Math.max.name ∈ wsU ∧ Cond.initialized "java/lang/Math" ∈ wsU ∧ Cond.code Lib.Math.max.name Lib.Math.max.code 2 (some .int) ∈ wsU) (kk : WW p l e R s m args below meth c D cas ad A nL k0 n0 Q (pc + 3) lv (.int (zI (imax a b)) :: st) M) : WW p l e R s m args below meth c D cas ad A nL k0 n0 Q pc lv (.int (zI b) :: .int (zI a) :: st) M := by
  obtain ⟨x1, x2, x3, x4, x5, x6, x7, x8, x9, x10⟩ := X
  intro H locs ls hP hS hl
  refine va_mmax x1 x2 (x3.trans hl.1.symm) x4 (x5 _ hlink) (x5 _ hw.1) (x5 _ hw.2.1) (x5 _ hw.2.2) hframes hlocals hc.1 hc.2 hd ?_
  rw [z_ite b a (zI_lt hg)]
  exact kk H locs ls hP hS hl
theorem R_mabs (X : zX p s m args c cc own nL D cas ad A) {ix : Nat} {a : Int} (hg : inR a) (hlink : Cond.methodLink own ix Lib.Math.abs.name ∈ wsU) (hframes : 1 ≤ R.frames) (hlocals : (st.map fun v => v.category).sum + 13 ≤ R.locals) (hc : k0 ≤ R.cells ∧ n0 ≤ R.slots) (hd : decode cc pc = .ok (.invokestatic ix, 3)) (hw : Cond.static Lib.Math.abs.name ∈ wsU ∧ Cond.initialized "java/lang/Math" ∈ wsU ∧ Cond.code Lib.Math.abs.name Lib.Math.abs.code 1 (some .int) ∈ wsU) (kk : WW p l e R s m args below meth c D cas ad A nL k0 n0 Q (pc + 3) lv (.int (zI (iabs a)) :: st) M) : WW p l e R s m args below meth c D cas ad A nL k0 n0 Q pc lv (.int (zI a) :: st) M := by
  obtain ⟨x1, x2, x3, x4, x5, x6, x7, x8, x9, x10⟩ := X
  intro H locs ls hP hS hl
  refine va_mabs x1 x2 (x3.trans hl.1.symm) x4 (x5 _ hlink) (x5 _ hw.1) (x5 _ hw.2.1) (x5 _ hw.2.2) hframes hlocals hc.1 hc.2 hd ?_
  rw [zI_0, zI_sub, z_ite a (0 - a) (zI_le ⟨zI_r0, hg⟩)]
  exact kk H locs ls hP hS hl
theorem R_gets (X : zX p s m args c cc own nL D cas ad A) {ix N : Nat} {nm : String} {f : Nat → Int} (hZ : zS1 nm N f A s s.heap) (hlink : Cond.fieldLink own ix "ShardTrails" nm "[I" ∈ wsU) (hd : decode cc pc = .ok (.getstatic ix, 3)) (kk : ∀ t : Nat, va_T .int t N (fun j => .int (zI (f j))) A s s.heap → WW p l e R s m args below meth c D cas ad A nL k0 n0 Q (pc + 3) lv (.ref t :: st) M) : WW p l e R s m args below meth c D cas ad A nL k0 n0 Q pc lv st M := by
  obtain ⟨x1, x2, x3, x4, x5, x6, x7, x8, x9, x10⟩ := X
  obtain ⟨t, h1, h2, -⟩ := hZ
  intro H locs ls hP hS hl
  exact va_gets x1 x2 h1 hS x4 (x5 _ hlink) (fun _ h => h) hd (kk t h2 H locs ls hP hS hl)
theorem R_tald (X : zX p s m args c cc own nL D cas ad A) {t N : Nat} {f : Nat → Int} {i : Int} (hT : va_T .int t N (fun j => .int (zI (f j))) A s s.heap) (hN : N ≤ 2147483647) (hi : 0 ≤ i ∧ i < (N : Int)) (hd : decode cc pc = .ok (.iaload, 1)) (kk : WW p l e R s m args below meth c D cas ad A nL k0 n0 Q (pc + 1) lv (.int (zI (f i.toNat)) :: st) M) : WW p l e R s m args below meth c D cas ad A nL k0 n0 Q pc lv (.int (zI i) :: .ref t :: st) M := by
  obtain ⟨x1, x2, x3, x4, x5, x6, x7, x8, x9, x10⟩ := X
  intro H locs ls hP hS hl
  exact va_ti x1 x2 hT hS (zI_vp hi hN) (by rw [zI_cl hi hN]) hd (kk H locs ls hP hS hl)
theorem R_istore_nX (X : zX p s m args c cc own nL D cas ad A) {k : Fin 4} {i : Nat} {x y : Int} {lv' : List (Nat × Value)} (ex : x = y) (hd : decode cc pc = .ok (.istore_n k, 1)) (hi : (k : Nat) = i) (hn : i < nL) (hl' : (i, Value.int (zI x)) :: lv.filter (fun q => !(q.1 == i) && !(q.1 + 1 == i && q.2.category == 2)) = lv') (kk : WW p l e R s m args below meth c D cas ad A nL k0 n0 Q (pc + 1) lv' st M) : WW p l e R s m args below meth c D cas ad A nL k0 n0 Q pc lv (.int (zI y) :: st) M := by
  subst ex
  exact R_istore_n X hd hi hn hl' kk
theorem R_istoreX (X : zX p s m args c cc own nL D cas ad A) {i : Nat} {x y : Int} {lv' : List (Nat × Value)} (ex : x = y) (hd : decode cc pc = .ok (.istore i, 2)) (hn : i < nL) (hl' : (i, Value.int (zI x)) :: lv.filter (fun q => !(q.1 == i) && !(q.1 + 1 == i && q.2.category == 2)) = lv') (kk : WW p l e R s m args below meth c D cas ad A nL k0 n0 Q (pc + 2) lv' st M) : WW p l e R s m args below meth c D cas ad A nL k0 n0 Q pc lv (.int (zI y) :: st) M := by
  subst ex
  exact R_istore X hd hn hl' kk
theorem R_mem {M1 M2 : Mem} (ex : M1 = M2) (kk : WW p l e R s m args below meth c D cas ad A nL k0 n0 Q pc lv st M1) : WW p l e R s m args below meth c D cas ad A nL k0 n0 Q pc lv st M2 := ex ▸ kk
theorem R_sld (X : zX p s m args c cc own nL D cas ad A) {b L : Nat} {xs : Nat → Int} (hX : va_X b L (fun j => zI (xs j)) s s.heap) (hbl : b < s.heap.size) (hbA : ¬ A b) {i : Int} (hi : 0 ≤ i ∧ i < (L : Int)) (hL : L ≤ 2147483647) (hd : decode cc pc = .ok (.iaload, 1)) (kk : WW p l e R s m args below meth c D cas ad A nL k0 n0 Q (pc + 1) lv (.int (zI (xs i.toNat)) :: st) M) : WW p l e R s m args below meth c D cas ad A nL k0 n0 Q pc lv (.int (zI i) :: .ref b :: st) M := by
  obtain ⟨x1, x2, x3, x4, x5, x6, x7, x8, x9, x10⟩ := X
  intro H locs ls hP hS hl
  refine va_sld x1 x2 hX hbl hbA hS (zI_vp hi hL) hd ?_
  rw [zI_cl hi hL]
  exact kk H locs ls hP hS hl
theorem R_slen (X : zX p s m args c cc own nL D cas ad A) {b L : Nat} {xs : Nat → Int} (hX : va_X b L (fun j => zI (xs j)) s s.heap) (hbl : b < s.heap.size) (hbA : ¬ A b) (hd : decode cc pc = .ok (.arraylength, 1)) (kk : WW p l e R s m args below meth c D cas ad A nL k0 n0 Q (pc + 1) lv (.int (zI (L : Int)) :: st) M) : WW p l e R s m args below meth c D cas ad A nL k0 n0 Q pc lv (.ref b :: st) M := by
  obtain ⟨x1, x2, x3, x4, x5, x6, x7, x8, x9, x10⟩ := X
  intro H locs ls hP hS hl
  refine va_slen x1 x2 hX hbl hbA hS hd ?_
  rw [zI_ofNat]
  exact kk H locs ls hP hS hl
end ZR
end
section
/-! contracts: a method over the memory; its calls, its end -/
def zGP (D : va_G) (cas : Nat → ClassId) (ad : Nat → Nat) (M : Mem) (U : State) : Prop :=
  va_P D vwCl (zW cas ad M) U.heap ∧ va_K D vwCl (zT cas) U ∧ zNW U ∧ zST (zA ad) U U.heap
theorem zGP.moved {D : va_G} {cas : Nat → ClassId} {ad : Nat → Nat} {M : Mem} {u U : State} (hh : U.heap = u.heap) (hW : u.WarmedH U.vm) (h : zGP D cas ad M u) : zGP D cas ad M U := by
  obtain ⟨h1, h2, h3, h4⟩ := h
  exact ⟨by rw [hh]; exact h1, va_K.moved hW.alike h2, h3.warm hW, by rw [hh]; exact h4.moved hW.alike⟩
abbrev zws (y : MethodName) (b : ByteArray) (maxL : Nat) (ret : Option FieldType) : List Cond := .code y b maxL ret :: wsU
abbrev zrm (fr lo : Nat) : Room := { frames := fr, cells := 0, slots := 0, locals := lo }
abbrev zQi (D : va_G) (cas : Nat → ClassId) (ad : Nat → Nat) (r : Int) (M' : Mem) : Array Value → State → Outcome → State → Prop := va_Qi (fun (r2 : Int32) (_ : Unit) => r2 = zI r) (fun _ t => zGP D cas ad M' t) (zA ad)
abbrev zQv (D : va_G) (cas : Nat → ClassId) (ad : Nat → Nat) (M' : Mem) : Array Value → State → Outcome → State → Prop := va_Qv (fun (_ : Unit) => True) (fun _ t => zGP D cas ad M' t) (zA ad)
def zMi (l : Launch) (D : va_G) (cas : Nat → ClassId) (ad : Nat → Nat) (y : MethodName) (b : ByteArray) (maxL : Nat) (ret : Option FieldType) (fr lo : Nat) (av : List Value) (M : Mem) (r : Int) (M' : Mem) : Prop :=
  Met l y (zws y b maxL ret) (zrm fr lo) (va_Pc av (fun U => zGP D cas ad M U)) (zQi D cas ad r M') 0 0 (zA ad)
def zMv (l : Launch) (D : va_G) (cas : Nat → ClassId) (ad : Nat → Nat) (y : MethodName) (b : ByteArray) (maxL : Nat) (fr lo : Nat) (av : List Value) (M : Mem) (M' : Mem) : Prop :=
  Met l y (zws y b maxL none) (zrm fr lo) (va_Pc av (fun U => zGP D cas ad M U)) (zQv D cas ad M') 0 0 (zA ad)
theorem zblind {D : va_G} {cas : Nat → ClassId} {ad : Nat → Nat} {M : Mem} {av : List Value} : FrameBlind (va_Pc av (fun U => zGP D cas ad M U)) := by
  intro a U g mk ⟨h0, h1, h2, h3, h4⟩
  refine ⟨h0, h1, va_K.moved (u := U) (U := U.calling g mk a) (Vm.Alike.refl U.vm) h2, ⟨fun q hq => va_Nw.same rfl rfl (h3.1 q hq), fun q hq => va_Nw.same rfl rfl (h3.2.1 q hq), va_Nw.same rfl rfl h3.2.2.1, va_AO.moved (u := U) (U := U.calling g mk a) (Vm.Alike.refl U.vm) h3.2.2.2⟩, h4.moved (u := U) (U := U.calling g mk a) (Vm.Alike.refl U.vm)⟩
theorem zbody {l : Launch} {D : va_G} {cas : Nat → ClassId} {ad : Nat → Nat} {y : MethodName} {b : ByteArray} {maxL : Nat} {ret : Option FieldType} {fr lo : Nat} {av : List Value} {M : Mem} {Qc : Array Value → State → Outcome → State → Prop} (hy : plainName y.cls = true) (hn : (lg_sl av).length ≤ maxL) (hi : zInj ad)
    (body : ∀ (p : Program) (e : Env) (s : State) (m : MethodId) (args : Array Value) (below : List Frame) (meth : Method) (c : Code), zX p s m args c b y.cls maxL D cas ad (zA ad) → meth.sig.returnType = ret → meth.locks = false → WW p l e (zrm fr lo) s m args below meth c D cas ad (zA ad) maxL 0 0 (MQ below Qc args s 0 0 (zA ad)) 0 (lv_args 0 av) [] M) :
    Met l y (zws y b maxL ret) (zrm fr lo) (va_Pc av (fun U => zGP D cas ad M U)) Qc 0 0 (zA ad) := by
  refine Met.ofW (cc := b) (maxL := maxL) (ret := ret) hy rfl ?_
  intro p e s m args below meth c s₁ B hml hv
  obtain ⟨rfl, hP, hK, hN, hST⟩ := hv
  have hts := atoms_spec (ws := zws y b maxL ret) B.pre
  have hX : zX p s m av.toArray c b y.cls maxL D cas ad (zA ad) := ⟨B.exec, B.bytes, hml, findClass_of_methodNamed B.named, fun w h => hts w (List.mem_cons_of_mem _ h), hK, hN, zD hi (fun _ h => h), fun _ h => h, hST⟩
  have hl := lv_entry av (n := maxL) hn
  rw [lg_entry_eq]
  exact body p e s m av.toArray below meth c hX B.returns B.notSynchronized s.heap [] _ hP va_S.rf hl
section ZE
variable {p : Program} {l : Launch} {e : Env} {R : Room} {s : State} {m : MethodId} {args : Array Value} {below : List Frame} {meth : Method} {c : Code} {D : va_G} {cas : Nat → ClassId} {ad : Nat → Nat} {nL : Nat}
variable {cc : ByteArray} {own : String} {pc : Nat} {lv : List (Nat × Value)} {M M' : Mem}
theorem zend {A : Nat → Prop} {H : Heap} {locs : List Loc} (X : zX p s m args c cc own nL D cas ad A) (hP : va_P D vwCl (zW cas ad M) H) (hS : va_S A s.heap H locs) {t : State} (ht : t.heap = H) (hW : s.WarmedH t.vm) : zGP D cas ad M t := by
  obtain ⟨x1, x2, x3, x4, x5, x6, x7, x8, x9, x10⟩ := X
  refine ⟨by rw [ht]; exact hP, va_K.moved hW.alike x6, x7.warm hW, ?_⟩
  rw [ht]
  exact ((x10.moved hW.alike).kept (fun a h1 h2 => hS.2.1 a h1 h2)).narrow x9
theorem R_iret (X : zX p s m args c cc own nL D cas ad (zA ad)) {v r : Int} (hr : meth.sig.returnType = some .int) (hk : meth.locks = false) (hd : decode cc pc = .ok (.ireturn, 1)) (hf : (some (v, M) : Option (Int × Mem)) = some (r, M')) : WW p l e R s m args below meth c D cas ad (zA ad) nL 0 0 (MQ below (zQi D cas ad r M') args s 0 0 (zA ad)) pc lv [.int (zI v)] M := by
  cases hf
  intro H locs ls hP hS hl
  exact W.iret X.1 X.2.1 hr (fun t ht hW => ⟨⟨zI v, (), rfl, rfl, zend X hP hS ht hW⟩, hS.F ht⟩) hS.2.2 hd hk
theorem R_zret (X : zX p s m args c cc own nL D cas ad (zA ad)) {v r : Int} (hb : v = 0 ∨ v = 1) (hr : meth.sig.returnType = some .boolean) (hk : meth.locks = false) (hd : decode cc pc = .ok (.ireturn, 1)) (hf : (some (v, M) : Option (Int × Mem)) = some (r, M')) : WW p l e R s m args below meth c D cas ad (zA ad) nL 0 0 (MQ below (zQi D cas ad r M') args s 0 0 (zA ad)) pc lv [.int (zI v)] M := by
  cases hf
  intro H locs ls hP hS hl
  exact W.zret X.1 X.2.1 hr (z_nZ hb) (fun t ht hW => ⟨⟨zI v, (), rfl, rfl, zend X hP hS ht hW⟩, hS.F ht⟩) hS.2.2 hd hk
theorem R_vret (X : zX p s m args c cc own nL D cas ad (zA ad)) {v r : Int} (hr : meth.sig.returnType = none) (hk : meth.locks = false) (hd : decode cc pc = .ok (.return_, 1)) (hf : (some (v, M) : Option (Int × Mem)) = some (r, M')) : WW p l e R s m args below meth c D cas ad (zA ad) nL 0 0 (MQ below (zQv D cas ad M') args s 0 0 (zA ad)) pc lv [] M := by
  cases hf
  intro H locs ls hP hS hl
  exact W.vret X.1 X.2.1 hr (fun t ht hW => ⟨⟨(), rfl, trivial, zend X hP hS ht hW⟩, hS.F ht⟩) hS.2.2 hd hk
end ZE
section ZC
variable {p : Program} {l : Launch} {e : Env} {R : Room} {s : State} {m : MethodId} {args : Array Value} {below : List Frame} {meth : Method} {c : Code} {D : va_G} {cas : Nat → ClassId} {ad : Nat → Nat} {A : Nat → Prop} {nL k0 n0 : Nat} {Q : State → Prop}
variable {cc : ByteArray} {own : String} {pc : Nat} {lv : List (Nat × Value)} {st rest : List Value} {M M' : Mem}
theorem zpc (X : zX p s m args c cc own nL D cas ad A) {H : Heap} {locs : List Loc} (hP : va_P D vwCl (zW cas ad M) H) (hS : va_S A s.heap H locs) {av : List Value} {U : State} (hU : U.heap = H) (hW : s.WarmedH U.vm) : va_Pc av (fun U => zGP D cas ad M U) av.toArray U := ⟨rfl, zend X hP hS hU hW⟩
theorem zgood {y : MethodName} {b : ByteArray} {maxL : Nat} {ret : Option FieldType} (hcode : Cond.code y b maxL ret ∈ wsU) : GoodIn wsU (zws y b maxL ret) := by
  intro w hw
  rcases List.mem_cons.mp hw with rfl | h
  · exact wsU_good _ hcode
  · exact wsU_good _ h
/-- the words of a method that calls ask for -/
def zyV (y : MethodName) (b : ByteArray) (maxL n : Nat) (ret : Option FieldType) : Prop := Cond.code y b maxL ret ∈ wsU ∧ Cond.instanceMethod y ∈ wsU ∧ Cond.selects y.cls y y ∈ wsU ∧ Cond.initialized y.cls ∈ wsU ∧ (y.cls ≠ "java/lang/invoke/MethodHandle" ∧ y.cls ≠ "java/lang/invoke/VarHandle" ∧ (parseMethodDescriptor y.desc).map (fun d => d.parameters.length) = some n)
def zyS (y : MethodName) (b : ByteArray) (maxL n : Nat) (ret : Option FieldType) : Prop := Cond.code y b maxL ret ∈ wsU ∧ Cond.static y ∈ wsU ∧ Cond.initialized y.cls ∈ wsU ∧ (y.cls ≠ "java/lang/invoke/MethodHandle" ∧ y.cls ≠ "java/lang/invoke/VarHandle" ∧ (parseMethodDescriptor y.desc).map (fun d => d.parameters.length) = some n)
theorem zcwV (X : zX p s m args c cc own nL D cas ad A) {y : MethodName} {b : ByteArray} {maxL n fr lo ix : Nat} {ret : Option FieldType} (hy : zyV y b maxL n ret) (hlink : Cond.methodLink own ix y ∈ wsU) (hR : fr + 1 ≤ R.frames ∧ 8 + (maxL + 11) + lo ≤ R.locals) : CallW R s args own y.cls ix y b maxL ret (zws y b maxL ret) (zrm fr lo) 0 0 n := by
  obtain ⟨h1, h2, h3, h4, h5⟩ := hy
  obtain ⟨x1, x2, x3, x4, x5, x6, x7, x8, x9, x10⟩ := X
  exact ⟨callB_of n x5 (zgood h1) rfl rfl rfl (x5 _ h4) (x5 _ hlink) h5 hR, x5 _ h2, x5 _ h3⟩
theorem zcwS (X : zX p s m args c cc own nL D cas ad A) {y : MethodName} {b : ByteArray} {maxL n fr lo ix : Nat} {ret : Option FieldType} (hy : zyS y b maxL n ret) (hlink : Cond.methodLink own ix y ∈ wsU) (hR : fr + 1 ≤ R.frames ∧ 8 + (maxL + 11) + lo ≤ R.locals) : CallB R s args own ix y b maxL ret (zws y b maxL ret) (zrm fr lo) 0 0 n ∧ (Cond.static y).before args s = true := by
  obtain ⟨h1, h2, h4, h5⟩ := hy
  obtain ⟨x1, x2, x3, x4, x5, x6, x7, x8, x9, x10⟩ := X
  exact ⟨callB_of n x5 (zgood h1) rfl rfl rfl (x5 _ h4) (x5 _ hlink) h5 hR, x5 _ h2⟩
theorem zcwN (X : zX p s m args c cc own nL D cas ad A) {y : MethodName} {b : ByteArray} {maxL n fr lo ix : Nat} {ret : Option FieldType} (hy : zyS y b maxL n ret) (hlink : (own, ix, y, "ShardTrails") ∈ zNest) (hR : fr + 1 ≤ R.frames ∧ 8 + (maxL + 11) + lo ≤ R.locals) : va_CN R s args own ix y "ShardTrails" b maxL ret (zws y b maxL ret) (zrm fr lo) 0 0 n ∧ (Cond.static y).before args s = true ∧ True := by
  obtain ⟨h1, h2, h4, h5⟩ := hy
  obtain ⟨x1, x2, x3, x4, x5, x6, x7, x8, x9, x10⟩ := X
  exact ⟨va_cnB n x5 (zgood h1) rfl rfl rfl (x7.1 _ hlink) (x5 _ h4) h5 hR, x5 _ h2, trivial⟩
theorem zafter (X : zX p s m args c cc own nL D cas ad A) {H1 : Heap} {locs1 : List Loc} {ls : Array Slot} {t : State} {st' : List Value} (k : WW p l e R s m args below meth c D cas ad A nL k0 n0 Q (pc + 3) lv st' M') (ht : t.heap = H1) (hB : zGP D cas ad M' t) (hS : va_S A s.heap H1 locs1) (hl : lv_has ls nL lv) : W p l e R s m args below meth c H1 locs1 (k0 + 0) (n0 + 0) Q (F0 m (pc + 3) ls st') := k H1 locs1 ls (by rw [← ht]; exact hB.1) hS hl
theorem R_callVi (X : zX p s m args c cc own nL D cas ad A) {y : MethodName} {b : ByteArray} {maxL n fr lo ix k ci N : Nat} {C : String} {T : u_T} {ret : Option FieldType} {av : List Value} {r : Int} (hM : zMi l D cas ad y b maxL ret fr lo (.ref (ad k) :: av) M r M') (hy : zyV y b maxL n ret) (hk : k < zN ∧ lay k = (0, ci)) (hc : vwCl[ci]? = some (C, T, N)) (hC : C = y.cls) (hlink : Cond.methodLink own ix y ∈ wsU) (hst : st = av.reverse ++ .ref (ad k) :: rest) (hn : av.length = n) (hR : fr + 1 ≤ R.frames ∧ 8 + (maxL + 11) + lo ≤ R.locals) (hcs : k0 ≤ R.cells ∧ n0 ≤ R.slots) (hw : (rest.map fun v => v.category).sum ≤ 8) (hd : decode cc pc = .ok (.invokevirtual ix, 3)) (kk : WW p l e R s m args below meth c D cas ad A nL k0 n0 Q (pc + 3) lv (.int (zI r) :: rest) M') : WW p l e R s m args below meth c D cas ad A nL k0 n0 Q pc lv st M := by
  subst hst; subst hC
  intro H locs ls hP hS hl
  have he := zW_get (cas := cas) (ad := ad) (M := M) hk.1
  rw [zC_0 hk.2] at he
  refine va_calli (va_runV (As := av) (rest := rest) ⟨X.1, X.2.1, X.2.2.1, X.2.2.2.1, X.2.2.2.2.1⟩ hM (zcwV X hy hlink hR) ⟨zblind, va_recv X.2.2.2.2.2.1 hP hc he, fun U hU hW => zpc X hP hS hU hW⟩ rfl hn hl.1 rfl (lv_room hw) hd hcs) hS (fun q _ h => X.2.2.2.2.2.2.2.2.1 q h) X.2.2.2.2.2.2.2.2.1 (fun r1 u t H1 locs1 ht _ hp hB _ _ hS1 => ?_)
  rw [hp]
  exact zafter X kk ht hB hS1 hl
theorem R_callVv (X : zX p s m args c cc own nL D cas ad A) {y : MethodName} {b : ByteArray} {maxL n fr lo ix k ci N : Nat} {C : String} {T : u_T} {av : List Value} (hM : zMv l D cas ad y b maxL fr lo (.ref (ad k) :: av) M M') (hy : zyV y b maxL n none) (hk : k < zN ∧ lay k = (0, ci)) (hc : vwCl[ci]? = some (C, T, N)) (hC : C = y.cls) (hlink : Cond.methodLink own ix y ∈ wsU) (hst : st = av.reverse ++ .ref (ad k) :: rest) (hn : av.length = n) (hR : fr + 1 ≤ R.frames ∧ 8 + (maxL + 11) + lo ≤ R.locals) (hcs : k0 ≤ R.cells ∧ n0 ≤ R.slots) (hw : (rest.map fun v => v.category).sum ≤ 8) (hd : decode cc pc = .ok (.invokevirtual ix, 3)) (kk : WW p l e R s m args below meth c D cas ad A nL k0 n0 Q (pc + 3) lv rest M') : WW p l e R s m args below meth c D cas ad A nL k0 n0 Q pc lv st M := by
  subst hst; subst hC
  intro H locs ls hP hS hl
  have he := zW_get (cas := cas) (ad := ad) (M := M) hk.1
  rw [zC_0 hk.2] at he
  refine va_callv (va_runV (As := av) (rest := rest) ⟨X.1, X.2.1, X.2.2.1, X.2.2.2.1, X.2.2.2.2.1⟩ hM (zcwV X hy hlink hR) ⟨zblind, va_recv X.2.2.2.2.2.1 hP hc he, fun U hU hW => zpc X hP hS hU hW⟩ rfl hn hl.1 rfl (lv_room hw) hd hcs) hS (fun q _ h => X.2.2.2.2.2.2.2.2.1 q h) X.2.2.2.2.2.2.2.2.1 (fun u t H1 locs1 ht _ hp hB _ _ hS1 => ?_)
  exact zafter X kk ht hB hS1 hl
theorem R_callSi (X : zX p s m args c cc own nL D cas ad A) {y : MethodName} {b : ByteArray} {maxL n fr lo ix : Nat} {ret : Option FieldType} {av : List Value} {r : Int} (hM : zMi l D cas ad y b maxL ret fr lo av M r M') (hy : zyS y b maxL n ret) (hlink : Cond.methodLink own ix y ∈ wsU) (hst : st = av.reverse ++ rest) (hn : av.length = n) (hR : fr + 1 ≤ R.frames ∧ 8 + (maxL + 11) + lo ≤ R.locals) (hcs : k0 ≤ R.cells ∧ n0 ≤ R.slots) (hw : (rest.map fun v => v.category).sum ≤ 8) (hd : decode cc pc = .ok (.invokestatic ix, 3)) (kk : WW p l e R s m args below meth c D cas ad A nL k0 n0 Q (pc + 3) lv (.int (zI r) :: rest) M') : WW p l e R s m args below meth c D cas ad A nL k0 n0 Q pc lv st M := by
  subst hst
  intro H locs ls hP hS hl
  refine va_calli (va_runS (As := av) (rest := rest) ⟨X.1, X.2.1, X.2.2.1, X.2.2.2.1, X.2.2.2.2.1⟩ hM (zcwS X hy hlink hR) ⟨zblind, fun U hU hW => zpc X hP hS hU hW⟩ rfl hn hl.1 rfl (lv_room hw) hd hcs) hS (fun q _ h => X.2.2.2.2.2.2.2.2.1 q h) X.2.2.2.2.2.2.2.2.1 (fun r1 u t H1 locs1 ht _ hp hB _ _ hS1 => ?_)
  rw [hp]
  exact zafter X kk ht hB hS1 hl
theorem R_callSv (X : zX p s m args c cc own nL D cas ad A) {y : MethodName} {b : ByteArray} {maxL n fr lo ix : Nat} {av : List Value} (hM : zMv l D cas ad y b maxL fr lo av M M') (hy : zyS y b maxL n none) (hlink : Cond.methodLink own ix y ∈ wsU) (hst : st = av.reverse ++ rest) (hn : av.length = n) (hR : fr + 1 ≤ R.frames ∧ 8 + (maxL + 11) + lo ≤ R.locals) (hcs : k0 ≤ R.cells ∧ n0 ≤ R.slots) (hw : (rest.map fun v => v.category).sum ≤ 8) (hd : decode cc pc = .ok (.invokestatic ix, 3)) (kk : WW p l e R s m args below meth c D cas ad A nL k0 n0 Q (pc + 3) lv rest M') : WW p l e R s m args below meth c D cas ad A nL k0 n0 Q pc lv st M := by
  subst hst
  intro H locs ls hP hS hl
  refine va_callv (va_runS (As := av) (rest := rest) ⟨X.1, X.2.1, X.2.2.1, X.2.2.2.1, X.2.2.2.2.1⟩ hM (zcwS X hy hlink hR) ⟨zblind, fun U hU hW => zpc X hP hS hU hW⟩ rfl hn hl.1 rfl (lv_room hw) hd hcs) hS (fun q _ h => X.2.2.2.2.2.2.2.2.1 q h) X.2.2.2.2.2.2.2.2.1 (fun u t H1 locs1 ht _ hp hB _ _ hS1 => ?_)
  exact zafter X kk ht hB hS1 hl
theorem R_callNi (X : zX p s m args c cc own nL D cas ad A) {y : MethodName} {b : ByteArray} {maxL n fr lo ix : Nat} {ret : Option FieldType} {av : List Value} {r : Int} (hM : zMi l D cas ad y b maxL ret fr lo av M r M') (hy : zyS y b maxL n ret) (hlink : (own, ix, y, "ShardTrails") ∈ zNest) (hst : st = av.reverse ++ rest) (hn : av.length = n) (hR : fr + 1 ≤ R.frames ∧ 8 + (maxL + 11) + lo ≤ R.locals) (hcs : k0 ≤ R.cells ∧ n0 ≤ R.slots) (hw : (rest.map fun v => v.category).sum ≤ 8) (hd : decode cc pc = .ok (.invokestatic ix, 3)) (kk : WW p l e R s m args below meth c D cas ad A nL k0 n0 Q (pc + 3) lv (.int (zI r) :: rest) M') : WW p l e R s m args below meth c D cas ad A nL k0 n0 Q pc lv st M := by
  subst hst
  intro H locs ls hP hS hl
  refine va_calli (va_runSN (As := av) (rest := rest) ⟨X.1, X.2.1, X.2.2.1, X.2.2.2.1, X.2.2.2.2.1⟩ hM (zcwN X hy hlink hR) ⟨zblind, fun U hU hW => zpc X hP hS hU hW⟩ rfl hn hl.1 rfl (lv_room hw) hd hcs) hS (fun q _ h => X.2.2.2.2.2.2.2.2.1 q h) X.2.2.2.2.2.2.2.2.1 (fun r1 u t H1 locs1 ht _ hp hB _ _ hS1 => ?_)
  rw [hp]
  exact zafter X kk ht hB hS1 hl
theorem R_callNv (X : zX p s m args c cc own nL D cas ad A) {y : MethodName} {b : ByteArray} {maxL n fr lo ix : Nat} {av : List Value} (hM : zMv l D cas ad y b maxL fr lo av M M') (hy : zyS y b maxL n none) (hlink : (own, ix, y, "ShardTrails") ∈ zNest) (hst : st = av.reverse ++ rest) (hn : av.length = n) (hR : fr + 1 ≤ R.frames ∧ 8 + (maxL + 11) + lo ≤ R.locals) (hcs : k0 ≤ R.cells ∧ n0 ≤ R.slots) (hw : (rest.map fun v => v.category).sum ≤ 8) (hd : decode cc pc = .ok (.invokestatic ix, 3)) (kk : WW p l e R s m args below meth c D cas ad A nL k0 n0 Q (pc + 3) lv rest M') : WW p l e R s m args below meth c D cas ad A nL k0 n0 Q pc lv st M := by
  subst hst
  intro H locs ls hP hS hl
  refine va_callv (va_runSN (As := av) (rest := rest) ⟨X.1, X.2.1, X.2.2.1, X.2.2.2.1, X.2.2.2.2.1⟩ hM (zcwN X hy hlink hR) ⟨zblind, fun U hU hW => zpc X hP hS hU hW⟩ rfl hn hl.1 rfl (lv_room hw) hd hcs) hS (fun q _ h => X.2.2.2.2.2.2.2.2.1 q h) X.2.2.2.2.2.2.2.2.1 (fun u t H1 locs1 ht _ hp hB _ _ hS1 => ?_)
  exact zafter X kk ht hB hS1 hl
end ZC
end
section
/-! objects are made one behind another: cell k at the address h0 + k; a reference field holds 0 (null) or 1 (set) -/
def zCd (cas : Nat → ClassId) (h0 : Nat) (k : Nat) (f : Nat → Int) : va_E := match lay k with
  | (0, ci) => .inr (ci, (List.range (nfl ci)).map (fun j => if off ci j = 0 then .int (zI (f j)) else if f j = 0 then .null else .ref (h0 + (k + off ci j))))
  | (1, n) => .inl (cas 0, n, .inl (fun j => zI (f j)))
  | (2, n) => .inl (cas 1, n, .inl (fun j => zI (f j)))
  | (3, n) => .inl (cas 2, n, .inl (fun j => zI (f j)))
  | (_, n) => .inl (cas 3, n, .inr (.inr (.inr (.inr (fun j => if j < 4 ∧ f j = 0 then none else some (h0 + (k + 1 + 29 * j)))))))
theorem zCd_0 {cas : Nat → ClassId} {h0 k ci : Nat} {f : Nat → Int} (h : lay k = (0, ci)) : zCd cas h0 k f = .inr (ci, (List.range (nfl ci)).map (fun j => if off ci j = 0 then .int (zI (f j)) else if f j = 0 then .null else .ref (h0 + (k + off ci j)))) := by simp [zCd, h]
theorem zCd_1 {cas : Nat → ClassId} {h0 k n : Nat} {f : Nat → Int} (h : lay k = (1, n)) : zCd cas h0 k f = .inl (cas 0, n, .inl (fun j => zI (f j))) := by simp [zCd, h]
theorem zCd_2 {cas : Nat → ClassId} {h0 k n : Nat} {f : Nat → Int} (h : lay k = (2, n)) : zCd cas h0 k f = .inl (cas 1, n, .inl (fun j => zI (f j))) := by simp [zCd, h]
theorem zCd_3 {cas : Nat → ClassId} {h0 k n : Nat} {f : Nat → Int} (h : lay k = (3, n)) : zCd cas h0 k f = .inl (cas 2, n, .inl (fun j => zI (f j))) := by simp [zCd, h]
theorem zCd_4 {cas : Nat → ClassId} {h0 k n : Nat} {f : Nat → Int} (h : lay k = (4, n)) : zCd cas h0 k f = .inl (cas 3, n, .inr (.inr (.inr (.inr (fun j => if j < 4 ∧ f j = 0 then none else some (h0 + (k + 1 + 29 * j))))))) := by simp [zCd, h]
def zL (cas : Nat → ClassId) (h0 n : Nat) (M : Mem) : va_W := (List.range n).map (fun k => (h0 + k, zCd cas h0 k (M k)))
def ml (M : Mem) (k : Nat) (f : Nat → Int) : Mem := fun a => if a = k then f else M a
theorem zL_get {cas : Nat → ClassId} {h0 n k : Nat} {M : Mem} (h : k < n) : (zL cas h0 n M)[k]? = some (h0 + k, zCd cas h0 k (M k)) := by
  unfold zL
  rw [List.getElem?_map, List.getElem?_range h]
  rfl
theorem zL_out {cas : Nat → ClassId} {h0 n k : Nat} {M : Mem} (h : ¬ k < n) : (zL cas h0 n M)[k]? = none := List.getElem?_eq_none (by simp [zL]; omega)
theorem zL_set {cas : Nat → ClassId} {h0 n k : Nat} {M : Mem} (h : k < n) {x : va_E} {f : Nat → Int} (hx : x = zCd cas h0 k f) : (zL cas h0 n M).set k (h0 + k, x) = zL cas h0 n (ml M k f) := by
  subst hx
  apply List.ext_getElem?
  intro i
  rw [List.getElem?_set]
  by_cases e : k = i
  · subst e
    rw [if_pos rfl, zL_get h]
    simp [ml, zL, h]
  · rw [if_neg e]
    have e2 : ¬ i = k := fun q => e q.symm
    by_cases hi : i < n
    · rw [zL_get hi, zL_get hi]; simp [ml, e2]
    · rw [zL_out hi, zL_out hi]
theorem zL_push {cas : Nat → ClassId} {h0 n : Nat} {M : Mem} {x : va_E} {f : Nat → Int} (hx : x = zCd cas h0 n f) : zL cas h0 n M ++ [(h0 + n, x)] = zL cas h0 (n + 1) (ml M n f) := by
  subst hx
  apply List.ext_getElem?
  intro i
  by_cases h1 : i < n
  · rw [List.getElem?_append_left (by simp [zL]; omega), zL_get h1, zL_get (by omega)]
    have : ¬ i = n := by omega
    simp [ml, this]
  · rw [List.getElem?_append_right (by simp [zL]; omega)]
    by_cases h2 : i = n
    · subst h2
      rw [zL_get (by omega)]
      simp [zL, ml]
    · rw [zL_out (by omega)]
      exact List.getElem?_eq_none (by simp [zL]; omega)
theorem zL_D (cas : Nat → ClassId) (h0 n : Nat) (M : Mem) : va_D (fun q => h0 ≤ q) (zL cas h0 n M) := by
  have key : ∀ (i : Nat) (p : Nat × va_E), (zL cas h0 n M)[i]? = some p → p.1 = h0 + i := by
    intro i p h
    by_cases hl : i < n
    · rw [zL_get hl] at h; cases h; rfl
    · rw [zL_out hl] at h; cases h
  refine ⟨fun i j p q hp hq e => ?_, fun k q hk => ?_⟩
  · have h1 := key i p hp
    have h2 := key j q hq
    omega
  · have h1 := key k q hk
    show h0 ≤ q.1
    omega
def zY (p : Program) (s : State) (m : MethodId) (args : Array Value) (c : Code) (cc : ByteArray) (own : String) (nL : Nat) (D : va_G) (cas : Nat → ClassId) (h0 ne : Nat) : Prop :=
  p.tables.exec = Jvm.exec ∧ c.code = cc ∧ c.maxLocals = nL ∧ s.vm.findClass own = some m.cls ∧ (∀ w ∈ wsU, w.before args s = true) ∧ va_K D vwCl (zT cas) s ∧ zNW s ∧ zST (fun q => h0 ≤ q) s s.heap ∧ s.heap.size = h0 + ne
def WD (p : Program) (l : Launch) (e : Env) (R : Room) (s : State) (m : MethodId) (args : Array Value) (below : List Frame) (meth : Method) (c : Code) (D : va_G) (cas : Nat → ClassId) (h0 : Nat) (nL : Nat) (Q : State → Prop) (cells slots : Nat) (pc : Nat) (lv : List (Nat × Value)) (st : List Value) (n : Nat) (M : Mem) : Prop :=
  ∀ (H : Heap) (locs : List Loc) (ls : Array Slot), va_P D vwCl (zL cas h0 n M) H → va_S (fun q => h0 ≤ q) s.heap H locs → lv_has ls nL lv → W p l e R s m args below meth c H locs cells slots Q (F0 m pc ls st)
section DR
variable {p : Program} {l : Launch} {e : Env} {R : Room} {s : State} {m : MethodId} {args : Array Value} {below : List Frame} {meth : Method} {c : Code} {D : va_G} {cas : Nat → ClassId} {h0 ne nL k0 n0 : Nat} {Q : State → Prop}
variable {cc : ByteArray} {own : String} {pc n : Nat} {lv : List (Nat × Value)} {st : List Value} {M : Mem}
theorem zsz {H : Heap} {locs : List Loc} {g : JFrame} (hs : s.heap.size = h0 + ne) (hkn : k0 + ne = n) (hP : va_P D vwCl (zL cas h0 n M) H) (hS : va_S (fun q => h0 ≤ q) s.heap H locs) (k : H.size = h0 + n → W p l e R s m args below meth c H locs k0 n0 Q g) : W p l e R s m args below meth c H locs k0 n0 Q g := by
  intro T hT X
  refine k ?_ T hT X
  have h1 := X.heapSize
  rw [hT] at h1
  have h2 := hS.1
  rcases Nat.eq_zero_or_pos n with h | h
  · omega
  · have h3 := (hP (n - 1) _ (zL_get (by omega))).lt
    simp only [] at h3
    omega
theorem D_iconst (X : zY p s m args c cc own nL D cas h0 ne) {v : Int} (hd : decode cc pc = .ok (.iconst v, 1)) (k : WD p l e R s m args below meth c D cas h0 nL Q k0 n0 (pc + 1) lv (.int (zI v) :: st) n M) : WD p l e R s m args below meth c D cas h0 nL Q k0 n0 pc lv st n M :=
  fun H locs ls hP hS hl => lv_iconst X.1 X.2.1 hd rfl (k H locs ls hP hS hl)
theorem D_bipush (X : zY p s m args c cc own nL D cas h0 ne) {v : Int} (hd : decode cc pc = .ok (.bipush v, 2)) (hv : (Int8.ofInt v).toInt32 = zI v) (k : WD p l e R s m args below meth c D cas h0 nL Q k0 n0 (pc + 2) lv (.int (zI v) :: st) n M) : WD p l e R s m args below meth c D cas h0 nL Q k0 n0 pc lv st n M :=
  fun H locs ls hP hS hl => lv_bipush X.1 X.2.1 hd hv (k H locs ls hP hS hl)
theorem D_sipush (X : zY p s m args c cc own nL D cas h0 ne) {v : Int} (hd : decode cc pc = .ok (.sipush v, 3)) (hv : (Int16.ofInt v).toInt32 = zI v) (k : WD p l e R s m args below meth c D cas h0 nL Q k0 n0 (pc + 3) lv (.int (zI v) :: st) n M) : WD p l e R s m args below meth c D cas h0 nL Q k0 n0 pc lv st n M :=
  fun H locs ls hP hS hl => lv_sipush X.1 X.2.1 hd hv (k H locs ls hP hS hl)
theorem D_iload_n (X : zY p s m args c cc own nL D cas h0 ne) {k : Fin 4} {i : Nat} {x : Int32} (j : Nat) (hd : decode cc pc = .ok (.iload_n k, 1)) (hi : (k : Nat) = i) (hj : lv[j]? = some (i, .int x)) (kk : WD p l e R s m args below meth c D cas h0 nL Q k0 n0 (pc + 1) lv (.int x :: st) n M) : WD p l e R s m args below meth c D cas h0 nL Q k0 n0 pc lv st n M :=
  fun H locs ls hP hS hl => lv_iload_n X.1 X.2.1 hd hi (lv_at hl j hj) (kk H locs ls hP hS hl)
theorem D_aload_n (X : zY p s m args c cc own nL D cas h0 ne) {k : Fin 4} {i : Nat} {x : Nat} (j : Nat) (hd : decode cc pc = .ok (.aload_n k, 1)) (hi : (k : Nat) = i) (hj : lv[j]? = some (i, .ref x)) (kk : WD p l e R s m args below meth c D cas h0 nL Q k0 n0 (pc + 1) lv (.ref x :: st) n M) : WD p l e R s m args below meth c D cas h0 nL Q k0 n0 pc lv st n M :=
  fun H locs ls hP hS hl => lv_aload_n X.1 X.2.1 hd hi (lv_at hl j hj) (kk H locs ls hP hS hl)
theorem D_istore_n (X : zY p s m args c cc own nL D cas h0 ne) {k : Fin 4} {i : Nat} {x : Int32} {lv' : List (Nat × Value)} (hd : decode cc pc = .ok (.istore_n k, 1)) (hi : (k : Nat) = i) (hn : i < nL) (hl' : (i, Value.int x) :: lv.filter (fun q => !(q.1 == i) && !(q.1 + 1 == i && q.2.category == 2)) = lv') (kk : WD p l e R s m args below meth c D cas h0 nL Q k0 n0 (pc + 1) lv' st n M) : WD p l e R s m args below meth c D cas h0 nL Q k0 n0 pc lv (.int x :: st) n M :=
  fun H locs _ hP hS hl => lv_istore_n X.1 X.2.1 hd hi hl hn hl' (fun ls' h => kk H locs ls' hP hS h)
theorem D_astore_n (X : zY p s m args c cc own nL D cas h0 ne) {k : Fin 4} {i : Nat} {x : Nat} {lv' : List (Nat × Value)} (hd : decode cc pc = .ok (.astore_n k, 1)) (hi : (k : Nat) = i) (hn : i < nL) (hl' : (i, Value.ref x) :: lv.filter (fun q => !(q.1 == i) && !(q.1 + 1 == i && q.2.category == 2)) = lv') (kk : WD p l e R s m args below meth c D cas h0 nL Q k0 n0 (pc + 1) lv' st n M) : WD p l e R s m args below meth c D cas h0 nL Q k0 n0 pc lv (.ref x :: st) n M :=
  fun H locs _ hP hS hl => lv_astore_n X.1 X.2.1 hd hi hl hn hl' (fun ls' h => kk H locs ls' hP hS h)
theorem D_iinc (X : zY p s m args c cc own nL D cas h0 ne) {i : Nat} {v x y : Int} {lv' : List (Nat × Value)} (j : Nat) (hd : decode cc pc = .ok (.iinc i v, 3)) (hj : lv[j]? = some (i, .int (zI x))) (hy : x + v = y) (hn : i < nL) (hl' : (i, Value.int (zI y)) :: lv.filter (fun q => !(q.1 == i) && !(q.1 + 1 == i && q.2.category == 2)) = lv') (kk : WD p l e R s m args below meth c D cas h0 nL Q k0 n0 (pc + 3) lv' st n M) : WD p l e R s m args below meth c D cas h0 nL Q k0 n0 pc lv st n M := by
  subst hy
  exact fun H locs _ hP hS hl => lv_iinc X.1 X.2.1 hd hl hj (zI_add x v) hn hl' (fun ls' h => kk H locs ls' hP hS h)
theorem D_goto (X : zY p s m args c cc own nL D cas h0 ne) {o : Int} (tgt : Nat) (hd : decode cc pc = .ok (.goto o, 3)) (ht : (pc : Int) + o = (tgt : Int)) (k : WD p l e R s m args below meth c D cas h0 nL Q k0 n0 tgt lv st n M) : WD p l e R s m args below meth c D cas h0 nL Q k0 n0 pc lv st n M :=
  fun H locs ls hP hS hl => lv_goto X.1 X.2.1 hd ht (k H locs ls hP hS hl)
theorem D_icmp_geT (X : zY p s m args c cc own nL D cas h0 ne) {a b o : Int} (tgt : Nat) (hg : inR a ∧ inR b) (hq : b ≤ a) (hd : decode cc pc = .ok (.if_icmp .ge o, 3)) (ht : (pc : Int) + o = (tgt : Int)) (k : WD p l e R s m args below meth c D cas h0 nL Q k0 n0 tgt lv st n M) : WD p l e R s m args below meth c D cas h0 nL Q k0 n0 pc lv (.int (zI b) :: .int (zI a) :: st) n M :=
  fun H locs ls hP hS hl => lv_icmp_ge X.1 X.2.1 hd ht (fun _ => k H locs ls hP hS hl) (fun q => absurd ((zI_le ⟨hg.2, hg.1⟩).mpr hq) q)
theorem D_icmp_geF (X : zY p s m args c cc own nL D cas h0 ne) {a b o : Int} (tgt : Nat) (hg : inR a ∧ inR b) (hq : ¬ b ≤ a) (hd : decode cc pc = .ok (.if_icmp .ge o, 3)) (ht : (pc : Int) + o = (tgt : Int)) (k : WD p l e R s m args below meth c D cas h0 nL Q k0 n0 (pc + 3) lv st n M) : WD p l e R s m args below meth c D cas h0 nL Q k0 n0 pc lv (.int (zI b) :: .int (zI a) :: st) n M :=
  fun H locs ls hP hS hl => lv_icmp_ge X.1 X.2.1 hd ht (fun q => absurd ((zI_le ⟨hg.2, hg.1⟩).mp q) hq) (fun _ => k H locs ls hP hS hl)
theorem D_dup (X : zY p s m args c cc own nL D cas h0 ne) {v : Value} (hd : decode cc pc = .ok (.dup, 1)) (hv : v.category = 1) (k : WD p l e R s m args below meth c D cas h0 nL Q k0 n0 (pc + 1) lv (v :: v :: st) n M) : WD p l e R s m args below meth c D cas h0 nL Q k0 n0 pc lv (v :: st) n M :=
  fun H locs ls hP hS hl => lv_dup X.1 X.2.1 hd hv (k H locs ls hP hS hl)
theorem D_obj (X : zY p s m args c cc own nL D cas h0 ne) {ix a : Nat} (hlink : Cond.methodLink own ix objectInit ∈ wsU) (hinst : Cond.instanceMethod objectInit ∈ wsU) (hcode : Cond.code objectInit ⟨#[0xb1]⟩ 1 none ∈ wsU) (hd : decode cc pc = .ok (.invokespecial ix, 3)) (hframes : 1 ≤ R.frames) (hlocals : (st.map fun v => v.category).sum + 12 ≤ R.locals) (k : WD p l e R s m args below meth c D cas h0 nL Q k0 n0 (pc + 3) lv st n M) : WD p l e R s m args below meth c D cas h0 nL Q k0 n0 pc lv (.ref a :: st) n M := by
  obtain ⟨x1, x2, x3, x4, x5, x6, x7, x8, x9⟩ := X
  intro H locs ls hP hS hl
  exact W.objInit x1 x2 x4 (x5 _ hlink) (x5 _ hinst) (x5 _ hcode) rfl (hl.1.trans x3.symm) rfl hd hframes (by show 2 * 0 + _ + 12 ≤ _; omega) (k H locs ls hP hS hl)
theorem D_new (X : zY p s m args c cc own nL D cas h0 ne) {ix ci N : Nat} {C : String} {T : u_T} (ty : Nat → FieldType) (hl0 : lay n = (0, ci)) (hc : vwCl[ci]? = some (C, T, N)) (hn : nfl ci = N) (hin : ∀ w ∈ u_ws C T N, w ∈ wsU) (hty : ∀ k, k < N → parseFieldDescriptor (T k).2.2.1 = some (ty k)) (hdv : ∀ j, j < N → defaultValue (ty j) = if off ci j = 0 then Value.int 0 else Value.null) (hcl : Cond.classLink own ix C ∈ wsU) (hinst : Cond.instantiable C N ∈ wsU) (hini : Cond.initialized C ∈ wsU) (hkn : k0 + ne = n) (hd : decode cc pc = .ok (.new ix, 3)) (hcs : k0 + 1 ≤ R.cells ∧ n0 + N ≤ R.slots) (k : WD p l e R s m args below meth c D cas h0 nL Q (k0 + 1) (n0 + N) (pc + 3) lv (.ref (h0 + n) :: st) (n + 1) (ml M n (fun _ => 0))) : WD p l e R s m args below meth c D cas h0 nL Q k0 n0 pc lv st n M := by
  obtain ⟨x1, x2, x3, x4, x5, x6, x7, x8, x9⟩ := X
  intro H locs ls hP hS hl
  refine zsz x9 hkn hP hS (fun hz => ?_)
  have hKn := x6.1 ci _ hc
  refine W.newcK x1 x2 x4 (x5 _ hcl) (x5 _ hinst) (x5 _ hini) rfl hd hcs.1 hcs.2 hKn.2.1 hz fun H1 kC hkC e1 z1 o1 => ?_
  have hk : ∀ (k : Nat) (x : Nat × va_E), (zL cas h0 n M)[k]? = some x → H1[x.1]? = H[x.1]? := fun k x hx => o1 x.1 (by rw [← hz]; exact (hP k x hx).lt)
  refine k H1 locs ls ?_ ⟨Nat.le_trans hS.1 (by omega), fun x h1 h2 => (o1 x (by rw [← hz]; exact Nat.lt_of_lt_of_le h1 hS.1)).trans (hS.2.1 x h1 h2), hS.2.2⟩ hl
  rw [← zL_push rfl]
  refine (hP.kept hk).app (fun k x hx => ?_)
  have hz2 : k < 1 := (List.getElem?_eq_some_iff.mp hx).1
  rw [show k = 0 by omega] at hx
  cases hx
  rw [zCd_0 hl0]
  refine ⟨_, hc, (u_born ty x5 hin hKn hkC e1 hty).to (fun j hj => ?_)⟩
  rw [hdv j hj]
  have h0j : (List.range (nfl ci))[j]? = some j := List.getElem?_range (by omega)
  show _ = ((List.range (nfl ci)).map _).getD j Value.null
  rw [List.getD_eq_getElem?_getD, List.getElem?_map, h0j]
  simp [← zI_0]
theorem zT_cA {U : State} {t : Nat} {ty : FieldType} {cA : ClassId} (hK : va_K D vwCl (zT cas) U) (ht : (zT cas)[t]? = some (cas t, ty)) (hnp : ∀ C, ty ≠ .object C) (hA : U.vm.findClass ("[" ++ ty.toString) = some cA) : cA = cas t := by
  have h := (hK.2 t _ ht).2
  have h2 : U.vm.findClass ("[" ++ ty.toString) = some (cas t) := by
    unfold va_RA at h
    cases ty with
    | object C => exact absurd rfl (hnp C)
    | _ => exact h
  exact Option.some.inj (hA.symm.trans h2)
theorem D_newa (X : zY p s m args c cc own nL D cas h0 ne) {N t kd : Nat} {atype : ArrayType} {v : Int} (hl0 : lay n = (kd, N)) (hk1 : 1 ≤ kd ∧ kd ≤ 3) (ht : kd = t + 1) (hty : (zT cas)[t]? = some (cas t, newarray.typeOf atype)) (hnp : ∀ C, newarray.typeOf atype ≠ .object C) (hdv : defaultValue (newarray.typeOf atype) = .int 0) (harr : Cond.arrayClass (newarray.typeOf atype) ∈ wsU) (hv : 0 ≤ v ∧ v.toNat = N) (hN : N ≤ 100000) (hcb : componentBytes (newarray.typeOf atype) ≤ 8) (hkn : k0 + ne = n) (hd : decode cc pc = .ok (.newarray atype, 2)) (hcs : k0 + 1 ≤ R.cells ∧ n0 + N ≤ R.slots) (k : WD p l e R s m args below meth c D cas h0 nL Q (k0 + 1) (n0 + N) (pc + 2) lv (.ref (h0 + n) :: st) (n + 1) (ml M n (fun _ => 0))) : WD p l e R s m args below meth c D cas h0 nL Q k0 n0 pc lv (.int (zI v) :: st) n M := by
  obtain ⟨x1, x2, x3, x4, x5, x6, x7, x8, x9⟩ := X
  intro H locs ls hP hS hl
  refine zsz x9 hkn hP hS (fun hz => ?_)
  have hr : inR v := ⟨by omega, by omega⟩
  refine va_newaK x1 x2 (x5 _ harr) rfl hd (n := zI v) (N := N) rfl (by rw [zI_lt0 hr]; omega) (by rw [zI_clamp hr]; exact hv.2) (Nat.le_trans (Nat.mul_le_mul hN hcb) (by omega)) hcs.1 hcs.2 hz fun H1 cA e1 z1 o1 _ hnm => ?_
  have hcA : cA = cas t := zT_cA x6 hty hnp hnm
  have hk : ∀ (k : Nat) (x : Nat × va_E), (zL cas h0 n M)[k]? = some x → H1[x.1]? = H[x.1]? := fun k x hx => o1 x.1 (by rw [← hz]; exact (hP k x hx).lt)
  refine k H1 locs ls ?_ ⟨Nat.le_trans hS.1 (by omega), fun x h1 h2 => (o1 x (by rw [← hz]; exact Nat.lt_of_lt_of_le h1 hS.1)).trans (hS.2.1 x h1 h2), hS.2.2⟩ hl
  rw [← zL_push rfl]
  refine (hP.kept hk).app (fun k x hx => ?_)
  have hz2 : k < 1 := (List.getElem?_eq_some_iff.mp hx).1
  rw [show k = 0 by omega] at hx
  cases hx
  have hcell : zCd cas h0 n (fun _ => 0) = .inl (cas t, N, .inl (fun _ => 0)) := by
    rcases (show kd = 1 ∨ kd = 2 ∨ kd = 3 by omega) with h | h | h <;> subst h <;> (obtain rfl : t = _ := by first | exact (show t = 0 by omega) | exact (show t = 1 by omega) | exact (show t = 2 by omega))
    · rw [zCd_1 hl0]; simp [← zI_0]
    · rw [zCd_2 hl0]; simp [← zI_0]
    · rw [zCd_3 hl0]; simp [← zI_0]
  rw [hcell]
  show H1[h0 + n]? = some (vp_cell _ _)
  rw [e1, hcA, hdv]
  rfl
theorem zFd_get {cas : Nat → ClassId} {ci N j : Nat} {k : Nat} {f : Nat → Int} (hn : nfl ci = N) (hj : j < N) : ((List.range (nfl ci)).map (fun j => if off ci j = 0 then Value.int (zI (f j)) else if f j = 0 then .null else .ref (h0 + (k + off ci j))))[j]? = some (if off ci j = 0 then Value.int (zI (f j)) else if f j = 0 then .null else .ref (h0 + (k + off ci j))) := by
  rw [List.getElem?_map, List.getElem?_range (by omega)]
  rfl
theorem zFd_set {ci N j : Nat} {k : Nat} {f : Nat → Int} {v : Int} (hn : nfl ci = N) (hj : j < N) {w : Value} (hw : w = (if off ci j = 0 then Value.int (zI v) else if v = 0 then .null else .ref (h0 + (k + off ci j)))) : ((List.range (nfl ci)).map (fun j => if off ci j = 0 then Value.int (zI (f j)) else if f j = 0 then .null else .ref (h0 + (k + off ci j)))).set j w = (List.range (nfl ci)).map (fun i => if off ci i = 0 then Value.int (zI (up f j v i)) else if up f j v i = 0 then .null else .ref (h0 + (k + off ci i))) := by
  subst hw
  apply List.ext_getElem?
  intro i
  rw [List.getElem?_set]
  by_cases e : j = i
  · subst e
    rw [if_pos rfl, List.getElem?_map, List.getElem?_range (by omega)]
    simp [up]
    omega
  · rw [if_neg e, List.getElem?_map, List.getElem?_map]
    by_cases hi : i < nfl ci
    · rw [List.getElem?_range hi]
      have e2 : ¬ i = j := fun q => e q.symm
      simp [up, e2]
    · rw [List.getElem?_eq_none (by simp; omega)]
      rfl
theorem D_getR (X : zY p s m args c cc own nL D cas h0 ne) {k ci j ix N : Nat} {C ref : String} {T : u_T} (o kt : Nat) (hk : k < n ∧ lay k = (0, ci)) (hset : M k j ≠ 0) (hc : vwCl[ci]? = some (C, T, N)) (hin : ∀ w ∈ u_ws C T N, w ∈ wsU) (hj : j < N) (hn : nfl ci = N) (hof : off ci j = o) (ho : 0 < o) (hkt : k + o = kt) (href : (T j).1 = ref) (hlink : Cond.fieldLink own ix ref (T j).2.1 (T j).2.2.1 ∈ wsU) (hd : decode cc pc = .ok (.getfield ix, 3)) (kk : WD p l e R s m args below meth c D cas h0 nL Q k0 n0 (pc + 3) lv (.ref (h0 + kt) :: st) n M) : WD p l e R s m args below meth c D cas h0 nL Q k0 n0 pc lv (.ref (h0 + k) :: st) n M := by
  obtain ⟨x1, x2, x3, x4, x5, x6, x7, x8, x9⟩ := X
  subst hkt
  intro H locs ls hP hS hl
  have he := zL_get (cas := cas) (h0 := h0) (M := M) hk.1
  rw [zCd_0 hk.2] at he
  have hv := zFd_get (cas := cas) (h0 := h0) (k := k) (f := M k) hn hj
  have h1 : ¬ off ci j = 0 := by omega
  rw [if_neg h1, if_neg hset, hof] at hv
  exact va_get x1 x2 x5 hin x4 x6 hP k he hc j hj (x5 _ hlink) (fun x h => by rw [← href]; exact h) hv hd (kk H locs ls hP hS hl)
theorem D_put (X : zY p s m args c cc own nL D cas h0 ne) {k ci j ix N : Nat} {C ref : String} {T : u_T} {v : Int} {ty0 : Nat → FieldType} {ty : FieldType} (hk : k < n ∧ lay k = (0, ci)) (hc : vwCl[ci]? = some (C, T, N)) (hin : ∀ w ∈ u_ws C T N, w ∈ wsU) (hty : ∀ k, k < N → parseFieldDescriptor (T k).2.2.1 = some (ty0 k)) (hnm : ∀ a, a < N → ∀ b, b < N → a ≠ b → (T a).2.1 ≠ (T b).2.1) (hj : j < N) (hn : nfl ci = N) (hof : off ci j = 0) (href : (T j).1 = ref) (hlink : Cond.fieldLink own ix ref (T j).2.1 (T j).2.2.1 ∈ wsU) (hfin : (T j).2.2.2 = false) (hde : parseFieldDescriptor (T j).2.2.1 = some ty) (hna : narrow ty (.int (zI v)) = .int (zI v)) (hfit : fits ty (.int (zI v)) = true) (hd : decode cc pc = .ok (.putfield ix, 3)) (kk : WD p l e R s m args below meth c D cas h0 nL Q k0 n0 (pc + 3) lv st n (ml M k (up (M k) j v))) : WD p l e R s m args below meth c D cas h0 nL Q k0 n0 pc lv (.int (zI v) :: .ref (h0 + k) :: st) n M := by
  obtain ⟨x1, x2, x3, x4, x5, x6, x7, x8, x9⟩ := X
  intro H locs ls hP hS hl
  have he := zL_get (cas := cas) (h0 := h0) (M := M) hk.1
  rw [zCd_0 hk.2] at he
  refine va_put x1 x2 x5 hin ty0 hty hnm x4 x6 hP (zL_D _ _ _ _) hS k he hc j hj (x5 _ hlink) (fun x h => by rw [← href]; exact h) hfin hde hna hfit (by simp; omega) hd (fun H1 locs1 hP1 _ hS1 => kk H1 locs1 ls ?_ hS1 hl)
  rw [zFd_set (k := k) (f := M k) (v := v) hn hj (by rw [if_pos hof])] at hP1
  rw [zL_set hk.1 (zCd_0 (cas := cas) (h0 := h0) (f := up (M k) j v) hk.2).symm] at hP1
  exact hP1
theorem D_putR (X : zY p s m args c cc own nL D cas h0 ne) {k kt ci j ix N : Nat} {C ref : String} {T : u_T} {ty0 : Nat → FieldType} {ty : FieldType} (o : Nat) (hk : k < n ∧ lay k = (0, ci)) (hc : vwCl[ci]? = some (C, T, N)) (hin : ∀ w ∈ u_ws C T N, w ∈ wsU) (hty : ∀ k, k < N → parseFieldDescriptor (T k).2.2.1 = some (ty0 k)) (hnm : ∀ a, a < N → ∀ b, b < N → a ≠ b → (T a).2.1 ≠ (T b).2.1) (hj : j < N) (hn : nfl ci = N) (hof : off ci j = o) (ho : 0 < o) (hkt : k + o = kt) (href : (T j).1 = ref) (hlink : Cond.fieldLink own ix ref (T j).2.1 (T j).2.2.1 ∈ wsU) (hfin : (T j).2.2.2 = true) (hin2 : meth.name = "<init>") (hdecl : (T j).1 = own) (hde : parseFieldDescriptor (T j).2.2.1 = some ty) (hna : ∀ a : Addr, narrow ty (.ref a) = .ref a) (hfit : ∀ a : Addr, fits ty (.ref a) = true) (hd : decode cc pc = .ok (.putfield ix, 3)) (kk : WD p l e R s m args below meth c D cas h0 nL Q k0 n0 (pc + 3) lv st n (ml M k (up (M k) j 1))) : WD p l e R s m args below meth c D cas h0 nL Q k0 n0 pc lv (.ref (h0 + kt) :: .ref (h0 + k) :: st) n M := by
  obtain ⟨x1, x2, x3, x4, x5, x6, x7, x8, x9⟩ := X
  subst hkt
  intro H locs ls hP hS hl
  have he := zL_get (cas := cas) (h0 := h0) (M := M) hk.1
  rw [zCd_0 hk.2] at he
  refine va_putF x1 x2 x5 hin ty0 hty hnm x4 x6 hP (zL_D _ _ _ _) hS k he hc j hj (x5 _ hlink) (fun x h => by rw [← href]; exact h) hfin hin2 hdecl hde (hna _) (hfit _) (by simp; omega) hd (fun H1 locs1 hP1 _ hS1 => kk H1 locs1 ls ?_ hS1 hl)
  have h1 : ¬ off ci j = 0 := by omega
  rw [zFd_set (k := k) (f := M k) (v := 1) hn hj (by rw [if_neg h1, if_neg (by decide), hof])] at hP1
  rw [zL_set hk.1 (zCd_0 (cas := cas) (h0 := h0) (f := up (M k) j 1) hk.2).symm] at hP1
  exact hP1
theorem D_iast (X : zY p s m args c cc own nL D cas h0 ne) {k N : Nat} {i v : Int} (j : Nat) (hk : k < n ∧ lay k = (1, N)) (hi : 0 ≤ i ∧ i < (N : Int)) (hN : N ≤ 2147483647) (hj : i.toNat = j) (hd : decode cc pc = .ok (.iastore, 1)) (kk : WD p l e R s m args below meth c D cas h0 nL Q k0 n0 (pc + 1) lv st n (ml M k (up (M k) j v))) : WD p l e R s m args below meth c D cas h0 nL Q k0 n0 pc lv (.int (zI v) :: .int (zI i) :: .ref (h0 + k) :: st) n M := by
  obtain ⟨x1, x2, x3, x4, x5, x6, x7, x8, x9⟩ := X
  subst hj
  intro H locs ls hP hS hl
  have he := zL_get (cas := cas) (h0 := h0) (M := M) hk.1
  rw [zCd_1 hk.2] at he
  refine va_iast x1 x2 x6 hP (zL_D _ _ _ _) hS k 0 he rfl (zI_vp hi hN) hd (fun H1 locs1 hP1 _ hS1 => kk H1 locs1 ls ?_ hS1 hl)
  rw [zI_cl hi hN, z_upd] at hP1
  rw [zL_set hk.1 (zCd_1 (cas := cas) (h0 := h0) (f := up (M k) i.toNat v) hk.2).symm] at hP1
  exact hP1
theorem arrV_ext {cA : ClassId} {N : Nat} {f g : Nat → Value} (h : ∀ j, j < N → f j = g j) : arrV cA N f = arrV cA N g := by
  unfold arrV
  congr 1
  apply Array.ext
  · simp
  · intro i h1 h2
    simp only [Array.getElem_ofFn]
    exact h i (by simpa using h1)
theorem D_anew (X : zY p s m args c cc own nL D cas h0 ne) {ix N : Nat} {v : Int} (hl0 : lay n = (4, N)) (hv : 0 ≤ v ∧ v.toNat = N) (hN : N = 4) (hcl : Cond.classLink own ix "ShardTrails$State" ∈ wsU) (hkn : k0 + ne = n) (hd : decode cc pc = .ok (.anewarray ix, 3)) (hcs : k0 + 1 ≤ R.cells ∧ n0 + N ≤ R.slots) (k : WD p l e R s m args below meth c D cas h0 nL Q (k0 + 1) (n0 + N) (pc + 3) lv (.ref (h0 + n) :: st) (n + 1) (ml M n (fun _ => 0))) : WD p l e R s m args below meth c D cas h0 nL Q k0 n0 pc lv (.int (zI v) :: st) n M := by
  obtain ⟨x1, x2, x3, x4, x5, x6, x7, x8, x9⟩ := X
  intro H locs ls hP hS hl
  refine zsz x9 hkn hP hS (fun hz => ?_)
  have hr : inR v := ⟨by omega, by omega⟩
  refine W.anew (n := zI v) x1 x2 x4 (x5 _ hcl) (va_AO.use x7.2.2.2) rfl hd rfl (by rw [zI_lt0 hr]; omega) (by rw [zI_clamp hr]; omega) hcs.1 (by rw [zI_clamp hr, hv.2]; exact hcs.2) fun cA kA comp f1 f2 f3 f4 => ?_
  rw [zI_clamp hr, hv.2]
  have hcA : cA = cas 3 := by
    obtain ⟨-, kA', comp', g1, g2, g3, g4⟩ := x6.2 3 (cas 3, .object "ShardTrails$State") rfl
    first | exact Option.some.inj (f1.symm.trans g4) | exact Option.some.inj (f4.symm.trans g4) | exact Option.some.inj (f2.symm.trans g4)
  generalize hH1 : H.push ({ cls := cA, slots := Array.replicate N .null, vm := .none } : Cell) = H1
  have z1 : H1.size = H.size + 1 := by rw [← hH1, Array.size_push]
  have e1 : H1[H.size]? = some (arrV cA N (fun _ => .null)) := by rw [← hH1, Array.getElem?_push_size, ← arrV_new]
  have o1 : ∀ q : Nat, q < H.size → H1[q]? = H[q]? := fun q hq => by rw [← hH1, Array.getElem?_push, if_neg (Nat.ne_of_lt hq)]
  have hk : ∀ (k : Nat) (x : Nat × va_E), (zL cas h0 n M)[k]? = some x → H1[x.1]? = H[x.1]? := fun k x hx => o1 x.1 ((hP k x hx).lt)
  have hg : W p l e R s m args below meth c H1 locs (k0 + 1) (n0 + N) Q (F0 m (pc + 3) ls (.ref (h0 + n) :: st)) := by
    refine k H1 locs ls ?_ ⟨Nat.le_trans hS.1 (by omega), fun x h1 h2 => (o1 x (Nat.lt_of_lt_of_le h1 hS.1)).trans (hS.2.1 x h1 h2), hS.2.2⟩ hl
    rw [← zL_push rfl]
    refine (hP.kept hk).app (fun k x hx => ?_)
    have hz2 : k < 1 := (List.getElem?_eq_some_iff.mp hx).1
    rw [show k = 0 by omega] at hx
    cases hx
    rw [zCd_4 hl0]
    show H1[h0 + n]? = some (vp_cell _ _)
    rw [← hz, e1, hcA, vp_cell_q]
    refine congrArg some (arrV_ext (fun j hj => ?_))
    subst hN
    rw [if_pos ⟨hj, rfl⟩]
    rfl
  rw [← hz] at hg
  exact hg
theorem D_aast (X : zY p s m args c cc own nL D cas h0 ne) {k N a : Nat} {i : Int} (j : Nat) (hk : k < n ∧ lay k = (4, N)) (hi : 0 ≤ i ∧ i < (N : Int)) (hN : N = 4) (hj : i.toNat = j) (ha : k + 1 + 29 * j = a) (hka : a < n ∧ lay a = (0, 7)) (hd : decode cc pc = .ok (.aastore, 1)) (kk : WD p l e R s m args below meth c D cas h0 nL Q k0 n0 (pc + 1) lv st n (ml M k (up (M k) j 1))) : WD p l e R s m args below meth c D cas h0 nL Q k0 n0 pc lv (.ref (h0 + a) :: .int (zI i) :: .ref (h0 + k) :: st) n M := by
  obtain ⟨x1, x2, x3, x4, x5, x6, x7, x8, x9⟩ := X
  subst hj
  intro H locs ls hP hS hl
  have he := zL_get (cas := cas) (h0 := h0) (M := M) hk.1
  rw [zCd_4 hk.2] at he
  have hv := zL_get (cas := cas) (h0 := h0) (M := M) hka.1
  rw [zCd_0 hka.2] at hv
  have hs : N ≤ 2147483647 := by omega
  refine va_astq (r := (RX7, TX7, 11)) x1 x2 x6 hP (zL_D _ _ _ _) hS k 3 a 7 he rfl hv rfl (zI_vp hi hs) hd (fun H1 locs1 hP1 _ hS1 => kk H1 locs1 ls ?_ hS1 hl)
  rw [zI_cl hi hs] at hP1
  have h9 : (fun j => if j < 4 ∧ up (M k) i.toNat 1 j = 0 then none else some (h0 + (k + 1 + 29 * j))) = va_up (fun j => if j < 4 ∧ M k j = 0 then none else some (h0 + (k + 1 + 29 * j))) i.toNat (some (h0 + a)) := by
    funext q
    by_cases e : q = i.toNat
    · subst e; simp [va_up, up, ← ha]
    · simp [va_up, up, e]
  rw [← h9] at hP1
  rw [zL_set hk.1 (zCd_4 (cas := cas) (h0 := h0) (f := up (M k) i.toNat 1) hk.2).symm] at hP1
  exact hP1
theorem D_gets (X : zY p s m args c cc own nL D cas h0 ne) {ix N : Nat} {nm : String} {f : Nat → Int} (hZ : zS1 nm N f (fun q => h0 ≤ q) s s.heap) (hlink : (own, ix, nm) ∈ zNestF) (hd : decode cc pc = .ok (.getstatic ix, 3)) (kk : ∀ t : Nat, va_T .int t N (fun j => .int (zI (f j))) (fun q => h0 ≤ q) s s.heap → zSx t N s s.heap → WD p l e R s m args below meth c D cas h0 nL Q k0 n0 (pc + 3) lv (.ref t :: st) n M) : WD p l e R s m args below meth c D cas h0 nL Q k0 n0 pc lv st n M := by
  obtain ⟨x1, x2, x3, x4, x5, x6, x7, x8, x9⟩ := X
  obtain ⟨t, h1, h2, h3⟩ := hZ
  intro H locs ls hP hS hl
  exact va_getsN x1 x2 h1 hS x4 (va_Nw.use rfl (x7.2.1 _ hlink)) (fun _ h => h) hd (kk t h2 h3 H locs ls hP hS hl)
theorem D_clone (X : zY p s m args c cc own nL D cas h0 ne) {ix N t : Nat} {f : Nat → Int} (hT : va_T .int t N (fun j => .int (zI (f j))) (fun q => h0 ≤ q) s s.heap) (hx : zSx t N s s.heap) (hl0 : lay n = (1, N)) (hlink : Cond.methodLink own ix ⟨"[I", "clone", "()Ljava/lang/Object;"⟩ ∈ wsU) (hsame : Cond.sameMethod "[I" "java/lang/Object" "clone" "()Ljava/lang/Object;" ∈ wsU) (hnat : Cond.native ⟨"java/lang/Object", "clone", "()Ljava/lang/Object;"⟩ ∈ wsU) (hinst : Cond.instanceMethod ⟨"java/lang/Object", "clone", "()Ljava/lang/Object;"⟩ ∈ wsU) (hsel : Cond.selects "[I" ⟨"[I", "clone", "()Ljava/lang/Object;"⟩ ⟨"java/lang/Object", "clone", "()Ljava/lang/Object;"⟩ ∈ wsU) (hframes : 1 ≤ R.frames) (hlocals : (st.map fun v => v.category).sum + 14 ≤ R.locals) (hkn : k0 + ne = n) (hd : decode cc pc = .ok (.invokevirtual ix, 3)) (hcs : k0 + 1 ≤ R.cells ∧ n0 + N ≤ R.slots) (kk : WD p l e R s m args below meth c D cas h0 nL Q (k0 + 1) (n0 + N) (pc + 3) lv (.ref (h0 + n) :: st) (n + 1) (ml M n f)) : WD p l e R s m args below meth c D cas h0 nL Q k0 n0 pc lv (.ref t :: st) n M := by
  obtain ⟨x1, x2, x3, x4, x5, x6, x7, x8, x9⟩ := X
  intro H locs ls hP hS hl
  refine zsz x9 hkn hP hS (fun hz => ?_)
  obtain ⟨cell, c1, c2, c3, c4⟩ := hx
  obtain ⟨cell', d1, d2, d3, d4, d5, d6, d7⟩ := hT
  cases c1.symm.trans d1
  obtain ⟨hAr, hRA⟩ := x6.2 0 _ rfl
  have hc0 : cell.cls = cas 0 := by
    have h2 : s.vm.findClass ("[" ++ (FieldType.int).toString) = some (cas 0) := hRA
    exact Option.some.inj (c3.symm.trans h2)
  have hcellE : ({ cls := cell.cls, slots := cell.slots } : Cell) = vp_cell (cas 0) (N, .inl (fun j => zI (f j))) := by
    rw [vp_cell_i, hc0]
    unfold arrV
    congr 1
    apply Array.ext
    · simp [c2]
    · intro i h1 h2
      have h3 := d6 i (by omega)
      rw [Array.getElem?_eq_getElem h1] at h3
      simp only [Array.getElem_ofFn]
      exact Option.some.inj h3
  obtain ⟨c0, t0', f1, f2, f3⟩ := Cond.castable_spec (va_Nw.use (A := args) rfl x7.2.2.1)
  cases c3.symm.trans f1
  intro T hT2 XS
  have hcellT : T.heap[t]? = some cell := by rw [hT2, hS.2.1 t (Array.getElem?_eq_some_iff.mp c1).1 d7]; exact c1
  obtain ⟨-, kA, hkA, comp, hkind⟩ := State.isArrayOf_alike XS.warmed.alike (hAr 0 (fun _ => .null))
  obtain ⟨-, kS, hkS, compS, hkindS⟩ := hAr 0 (fun _ => .null)
  obtain ⟨vm', X', stp⟩ := XS.cloneArray x1 x4 (x5 _ hlink) (x5 _ hsame) (x5 _ hnat) (x5 _ hinst) (x5 _ hsel) (a := t) (cell := cell) hcellT c4 d3 c3 f2 f3
    (fun i v hv => by
      rw [hc0]
      have hk' : T.vm.classes[cas 0]? = some kA := hkA
      have hlt : i < N := by rw [← c2]; exact (Array.getElem?_eq_some_iff.mp hv).1
      have h3 := (d6 i hlt).symm.trans hv
      cases h3
      simp [State.fitsSlot, State.slotType?, hk', hkind, fits])
    (g := F0 m pc ls (.ref t :: st)) rfl (by rw [x3]; exact hl.1) rfl (by rw [x2]; exact hd) hframes (by show 2 * 0 + _ + 14 ≤ _; omega) hcs.1 (by rw [c2]; exact hcs.2) (hloader := by rw [hc0]; exact Vm.clonesLoader_of_array hkS hkindS)
  rw [hcellE, c2] at X'
  generalize hH1 : H.push (vp_cell (cas 0) (N, .inl (fun j => zI (f j)))) = H1
  have z1 : H1.size = H.size + 1 := by rw [← hH1, Array.size_push]
  have e1 : H1[H.size]? = some (vp_cell (cas 0) (N, .inl (fun j => zI (f j)))) := by rw [← hH1, Array.getElem?_push_size]
  have o1 : ∀ q : Nat, q < H.size → H1[q]? = H[q]? := fun q hq => by rw [← hH1, Array.getElem?_push, if_neg (Nat.ne_of_lt hq)]
  have hk : ∀ (k : Nat) (y : Nat × va_E), (zL cas h0 n M)[k]? = some y → H1[y.1]? = H[y.1]? := fun k y hy => o1 y.1 ((hP k y hy).lt)
  have hP1 : va_P D vwCl (zL cas h0 (n + 1) (ml M n f)) H1 := by
    rw [← zL_push rfl]
    refine (hP.kept hk).app (fun k x hx => ?_)
    have hz2 : k < 1 := (List.getElem?_eq_some_iff.mp hx).1
    rw [show k = 0 by omega] at hx
    cases hx
    rw [zCd_1 hl0]
    show H1[h0 + n]? = some (vp_cell _ _)
    rw [← hz]
    exact e1
  obtain ⟨t2, b1, b2⟩ := kk H1 locs ls hP1 ⟨Nat.le_trans hS.1 (by omega), fun x h1 h2 => (o1 x (Nat.lt_of_lt_of_le h1 hS.1)).trans (hS.2.1 x h1 h2), hS.2.2⟩ hl ((T.setVm vm').pushCell (vp_cell (cas 0) (N, .inl (fun j => zI (f j))))) (by rw [← hH1, ← hT2]; rfl) X'
  refine ⟨t2, stp t2 ?_, b2⟩
  rw [hcellE, hT2, hz]
  exact b1
theorem D_castI (X : zY p s m args c cc own nL D cas h0 ne) {ix k N : Nat} (hk : k < n ∧ lay k = (1, N)) (hlink : Cond.classLink own ix "[I" ∈ wsU) (hd : decode cc pc = .ok (.checkcast ix, 3)) (kk : WD p l e R s m args below meth c D cas h0 nL Q k0 n0 (pc + 3) lv (.ref (h0 + k) :: st) n M) : WD p l e R s m args below meth c D cas h0 nL Q k0 n0 pc lv (.ref (h0 + k) :: st) n M := by
  obtain ⟨x1, x2, x3, x4, x5, x6, x7, x8, x9⟩ := X
  intro H locs ls hP hS hl
  have he := zL_get (cas := cas) (h0 := h0) (M := M) hk.1
  rw [zCd_1 hk.2] at he
  have hRA : s.vm.findClass ("[" ++ (FieldType.int).toString) = some (cas 0) := (x6.2 0 _ rfl).2
  exact va_castA x1 x2 x4 (x5 _ hlink) hP k he hRA hd (kk H locs ls hP hS hl)
theorem D_alen (X : zY p s m args c cc own nL D cas h0 ne) {k N : Nat} (hk : k < n ∧ lay k = (1, N)) (hd : decode cc pc = .ok (.arraylength, 1)) (kk : WD p l e R s m args below meth c D cas h0 nL Q k0 n0 (pc + 1) lv (.int (zI (N : Int)) :: st) n M) : WD p l e R s m args below meth c D cas h0 nL Q k0 n0 pc lv (.ref (h0 + k) :: st) n M := by
  obtain ⟨x1, x2, x3, x4, x5, x6, x7, x8, x9⟩ := X
  intro H locs ls hP hS hl
  have he := zL_get (cas := cas) (h0 := h0) (M := M) hk.1
  rw [zCd_1 hk.2] at he
  exact va_alen x1 x2 x6 hP k 0 he rfl (zI_ofNat N) hd (kk H locs ls hP hS hl)
theorem D_icmp_ge (X : zY p s m args c cc own nL D cas h0 ne) {a b o : Int} (tgt : Nat) (hg : inR a ∧ inR b) (hd : decode cc pc = .ok (.if_icmp .ge o, 3)) (ht : (pc : Int) + o = (tgt : Int)) (kt : b ≤ a → WD p l e R s m args below meth c D cas h0 nL Q k0 n0 tgt lv st n M) (kf : ¬ b ≤ a → WD p l e R s m args below meth c D cas h0 nL Q k0 n0 (pc + 3) lv st n M) : WD p l e R s m args below meth c D cas h0 nL Q k0 n0 pc lv (.int (zI b) :: .int (zI a) :: st) n M :=
  fun H locs ls hP hS hl => lv_icmp_ge X.1 X.2.1 hd ht (fun q => kt ((zI_le ⟨hg.2, hg.1⟩).mp q) H locs ls hP hS hl) (fun q => kf (fun z => q ((zI_le ⟨hg.2, hg.1⟩).mpr z)) H locs ls hP hS hl)
theorem D_sub {lv' : List (Nat × Value)} (ks : List Nat) (h : lv_pick lv ks = lv') (kk : WD p l e R s m args below meth c D cas h0 nL Q k0 n0 pc lv' st n M) : WD p l e R s m args below meth c D cas h0 nL Q k0 n0 pc lv st n M :=
  fun H locs ls hP hS hl => kk H locs ls hP hS (lv_sub hl ks h)
end DR
/-! contracts of what makes objects -/
def zGe (D : va_G) (cas : Nat → ClassId) (h0 n : Nat) (M : Mem) (U : State) : Prop :=
  va_P D vwCl (zL cas h0 n M) U.heap ∧ va_K D vwCl (zT cas) U ∧ zNW U ∧ zST (fun q => h0 ≤ q) U U.heap
def zGd (D : va_G) (cas : Nat → ClassId) (h0 n : Nat) (M : Mem) (U : State) : Prop := zGe D cas h0 n M U ∧ U.heap.size = h0 + n
abbrev zro (fr lo mc ms : Nat) : Room := { frames := fr, cells := mc, slots := ms, locals := lo }
abbrev zQd (D : va_G) (cas : Nat → ClassId) (h0 n' : Nat) (M' : Mem) : Array Value → State → Outcome → State → Prop := va_Qv (fun (_ : Unit) => True) (fun _ t => zGe D cas h0 n' M' t) (fun q => h0 ≤ q)
def zKd (l : Launch) (D : va_G) (cas : Nat → ClassId) (h0 : Nat) (y : MethodName) (b : ByteArray) (maxL : Nat) (fr lo mc ms : Nat) (av : List Value) (n : Nat) (M : Mem) (n' : Nat) (M' : Mem) : Prop :=
  Met l y (zws y b maxL none) (zro fr lo mc ms) (va_Pc av (fun U => zGd D cas h0 n M U)) (zQd D cas h0 n' M') mc ms (fun q => h0 ≤ q)
theorem zblindD {D : va_G} {cas : Nat → ClassId} {h0 n : Nat} {M : Mem} {av : List Value} : FrameBlind (va_Pc av (fun U => zGd D cas h0 n M U)) := by
  intro a U g mk ⟨h0, ⟨h1, h2, h3, h4⟩, h5⟩
  exact ⟨h0, ⟨h1, va_K.moved (u := U) (U := U.calling g mk a) (Vm.Alike.refl U.vm) h2, ⟨fun q hq => va_Nw.same rfl rfl (h3.1 q hq), fun q hq => va_Nw.same rfl rfl (h3.2.1 q hq), va_Nw.same rfl rfl h3.2.2.1, va_AO.moved (u := U) (U := U.calling g mk a) (Vm.Alike.refl U.vm) h3.2.2.2⟩, h4.moved (u := U) (U := U.calling g mk a) (Vm.Alike.refl U.vm)⟩, h5⟩
theorem zbodyD {l : Launch} {D : va_G} {cas : Nat → ClassId} {h0 n : Nat} {y : MethodName} {b : ByteArray} {maxL : Nat} {fr lo mc ms : Nat} {av : List Value} {M : Mem} {Qc : Array Value → State → Outcome → State → Prop} (hy : plainName y.cls = true) (hn : (lg_sl av).length ≤ maxL)
    (body : ∀ (p : Program) (e : Env) (s : State) (m : MethodId) (args : Array Value) (below : List Frame) (meth : Method) (c : Code), zY p s m args c b y.cls maxL D cas h0 n → meth.sig.returnType = none → meth.locks = false → meth.name = y.name → WD p l e (zro fr lo mc ms) s m args below meth c D cas h0 maxL (MQ below Qc args s mc ms (fun q => h0 ≤ q)) 0 0 0 (lv_args 0 av) [] n M) :
    Met l y (zws y b maxL none) (zro fr lo mc ms) (va_Pc av (fun U => zGd D cas h0 n M U)) Qc mc ms (fun q => h0 ≤ q) := by
  refine Met.ofW (cc := b) (maxL := maxL) (ret := none) hy rfl ?_
  intro p e s m args below meth c s₁ B hml hv
  obtain ⟨rfl, ⟨hP, hK, hN, hST⟩, hsz⟩ := hv
  have hts := atoms_spec (ws := zws y b maxL none) B.pre
  have hX : zY p s m av.toArray c b y.cls maxL D cas h0 n := ⟨B.exec, B.bytes, hml, findClass_of_methodNamed B.named, fun w h => hts w (List.mem_cons_of_mem _ h), hK, hN, hST, hsz⟩
  have hl := lv_entry av (n := maxL) hn
  rw [lg_entry_eq]
  exact body p e s m av.toArray below meth c hX B.returns B.notSynchronized (name_of_methodNamed B.named B.method).1 s.heap [] _ hP va_S.rf hl
section DE
variable {p : Program} {l : Launch} {e : Env} {R : Room} {s : State} {m : MethodId} {args : Array Value} {below : List Frame} {meth : Method} {c : Code} {D : va_G} {cas : Nat → ClassId} {h0 ne nL k0 n0 : Nat} {Q : State → Prop}
variable {cc : ByteArray} {own : String} {pc n n' : Nat} {lv : List (Nat × Value)} {st rest : List Value} {M M' : Mem}
theorem zendD {H : Heap} {locs : List Loc} (X : zY p s m args c cc own nL D cas h0 ne) (hP : va_P D vwCl (zL cas h0 n M) H) (hS : va_S (fun q => h0 ≤ q) s.heap H locs) {t : State} (ht : t.heap = H) (hW : s.WarmedH t.vm) : zGe D cas h0 n M t := by
  obtain ⟨x1, x2, x3, x4, x5, x6, x7, x8, x9⟩ := X
  refine ⟨by rw [ht]; exact hP, va_K.moved hW.alike x6, x7.warm hW, ?_⟩
  rw [ht]
  exact (x8.moved hW.alike).kept (fun a h1 h2 => hS.2.1 a h1 h2)
theorem D_vret {mc ms : Nat} (X : zY p s m args c cc own nL D cas h0 ne) (hr : meth.sig.returnType = none) (hk : meth.locks = false) (hd : decode cc pc = .ok (.return_, 1)) (hM : M = M') (h1 : k0 = mc) (h2 : n0 = ms) (h3 : n = n') : WD p l e R s m args below meth c D cas h0 nL (MQ below (zQd D cas h0 n' M') args s mc ms (fun q => h0 ≤ q)) k0 n0 pc lv [] n M := by
  subst hM; subst h1; subst h2; subst h3
  intro H locs ls hP hS hl
  exact W.vret X.1 X.2.1 hr (fun t ht hW => ⟨⟨(), rfl, trivial, zendD X hP hS ht hW⟩, hS.F ht⟩) hS.2.2 hd hk
def zyI (y : MethodName) (b : ByteArray) (maxL : Nat) : Prop := Cond.code y b maxL none ∈ wsU ∧ Cond.instanceMethod y ∈ wsU ∧ Cond.initialized y.cls ∈ wsU ∧ y.name = "<init>" ∧ (y.cls ≠ "java/lang/invoke/MethodHandle" ∧ y.cls ≠ "java/lang/invoke/VarHandle" ∧ (parseMethodDescriptor y.desc).map (fun d => d.parameters.length) = some 0)
theorem D_callI (X : zY p s m args c cc own nL D cas h0 ne) {y : MethodName} {b : ByteArray} {maxL fr lo mc ms ix k : Nat} (hM : zKd l D cas h0 y b maxL fr lo mc ms [.ref (h0 + k)] n M n' M') (hy : zyI y b maxL) (hlink : Cond.methodLink own ix y ∈ wsU) (hkn : k0 + ne = n) (hR : fr + 1 ≤ R.frames ∧ 8 + (maxL + 11) + lo ≤ R.locals) (hcs : k0 + mc ≤ R.cells ∧ n0 + ms ≤ R.slots) (hw : (rest.map fun v => v.category).sum ≤ 8) (hd : decode cc pc = .ok (.invokespecial ix, 3)) (kk : WD p l e R s m args below meth c D cas h0 nL Q (k0 + mc) (n0 + ms) (pc + 3) lv rest n' M') : WD p l e R s m args below meth c D cas h0 nL Q k0 n0 pc lv (.ref (h0 + k) :: rest) n M := by
  obtain ⟨g1, g2, g3, g4, g5⟩ := hy
  obtain ⟨x1, x2, x3, x4, x5, x6, x7, x8, x9⟩ := id X
  intro H locs ls hP hS hl
  refine zsz x9 hkn hP hS (fun hz => ?_)
  refine va_callv (va_runI (As := []) (rest := rest) ⟨x1, x2, x3, x4, x5⟩ hM ⟨callB_of 0 x5 (zgood g1) rfl rfl rfl (x5 _ g3) (x5 _ hlink) g5 hR, g4, x5 _ g2⟩ ⟨zblindD, fun U hU hW => ⟨rfl, zendD X hP hS hU hW, by rw [hU]; exact hz⟩⟩ rfl rfl hl.1 rfl (lv_room hw) hd hcs) hS (fun q _ h => h) (fun q h => h) (fun u t H1 locs1 ht _ hp hB _ _ hS1 => ?_)
  exact kk H1 locs1 ls (by rw [← ht]; exact hB.1) hS1 hl
theorem D_callIN (X : zY p s m args c cc own nL D cas h0 ne) {y : MethodName} {b : ByteArray} {maxL fr lo mc ms ix k : Nat} (hM : zKd l D cas h0 y b maxL fr lo mc ms [.ref (h0 + k)] n M n' M') (hy : zyI y b maxL) (hlink : (own, ix, y, "ShardTrails") ∈ zNest) (hkn : k0 + ne = n) (hR : fr + 1 ≤ R.frames ∧ 8 + (maxL + 11) + lo ≤ R.locals) (hcs : k0 + mc ≤ R.cells ∧ n0 + ms ≤ R.slots) (hw : (rest.map fun v => v.category).sum ≤ 8) (hd : decode cc pc = .ok (.invokespecial ix, 3)) (kk : WD p l e R s m args below meth c D cas h0 nL Q (k0 + mc) (n0 + ms) (pc + 3) lv rest n' M') : WD p l e R s m args below meth c D cas h0 nL Q k0 n0 pc lv (.ref (h0 + k) :: rest) n M := by
  obtain ⟨g1, g2, g3, g4, g5⟩ := hy
  obtain ⟨x1, x2, x3, x4, x5, x6, x7, x8, x9⟩ := id X
  intro H locs ls hP hS hl
  refine zsz x9 hkn hP hS (fun hz => ?_)
  refine va_callv (va_runIN (As := []) (rest := rest) ⟨x1, x2, x3, x4, x5⟩ hM ⟨va_cnB 0 x5 (zgood g1) rfl rfl rfl (x7.1 _ hlink) (x5 _ g3) g5 hR, g4, x5 _ g2⟩ ⟨zblindD, fun U hU hW => ⟨rfl, zendD X hP hS hU hW, by rw [hU]; exact hz⟩⟩ rfl rfl hl.1 rfl (lv_room hw) hd hcs) hS (fun q _ h => h) (fun q h => h) (fun u t H1 locs1 ht _ hp hB _ _ hS1 => ?_)
  exact kk H1 locs1 ls (by rw [← ht]; exact hB.1) hS1 hl
theorem D_callS (X : zY p s m args c cc own nL D cas h0 ne) {y : MethodName} {b : ByteArray} {maxL fr lo mc ms ix np : Nat} {av : List Value} (hM : zKd l D cas h0 y b maxL fr lo mc ms av n M n' M') (hy : zyS y b maxL np none) (hlink : Cond.methodLink own ix y ∈ wsU) (hst : st = av.reverse ++ rest) (hn : av.length = np) (hkn : k0 + ne = n) (hR : fr + 1 ≤ R.frames ∧ 8 + (maxL + 11) + lo ≤ R.locals) (hcs : k0 + mc ≤ R.cells ∧ n0 + ms ≤ R.slots) (hw : (rest.map fun v => v.category).sum ≤ 8) (hd : decode cc pc = .ok (.invokestatic ix, 3)) (kk : WD p l e R s m args below meth c D cas h0 nL Q (k0 + mc) (n0 + ms) (pc + 3) lv rest n' M') : WD p l e R s m args below meth c D cas h0 nL Q k0 n0 pc lv st n M := by
  subst hst
  obtain ⟨g1, g2, g4, g5⟩ := hy
  obtain ⟨x1, x2, x3, x4, x5, x6, x7, x8, x9⟩ := id X
  intro H locs ls hP hS hl
  refine zsz x9 hkn hP hS (fun hz => ?_)
  refine va_callv (va_runS (As := av) (rest := rest) ⟨x1, x2, x3, x4, x5⟩ hM ⟨callB_of np x5 (zgood g1) rfl rfl rfl (x5 _ g4) (x5 _ hlink) g5 hR, x5 _ g2⟩ ⟨zblindD, fun U hU hW => ⟨rfl, zendD X hP hS hU hW, by rw [hU]; exact hz⟩⟩ rfl hn hl.1 rfl (lv_room hw) hd hcs) hS (fun q _ h => h) (fun q h => h) (fun u t H1 locs1 ht _ hp hB _ _ hS1 => ?_)
  exact kk H1 locs1 ls (by rw [← ht]; exact hB.1) hS1 hl
end DE
end
