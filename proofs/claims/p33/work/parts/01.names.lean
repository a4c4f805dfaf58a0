-- ===== PART A: goes FIRST, ahead of the names: the tables' words, and 'selects' of the private methods out of them =====
/-- a private method of a class that the tables say can be made, by its rows of tables_1 -/
def lw_okq (q : MethodName × Nat) : Prop := (q.1.cls ≠ "java/lang/invoke/MethodHandle" ∧ q.1.cls ≠ "java/lang/invoke/VarHandle") ∧ Cond.instantiable q.1.cls q.2 ∈ tables_1 ∧ Cond.privateMethod q.1 ∈ tables_1 ∧ Cond.instanceMethod q.1 ∈ tables_1
theorem lw_p0 : lw_okq (⟨"ShardTrails", "isPasture", "(I)Z"⟩, 7) := ⟨⟨by decide +kernel, by decide +kernel⟩, List.mem_of_getElem? (i := 15) (by decide +kernel), List.mem_of_getElem? (i := 404) (by decide +kernel), List.mem_of_getElem? (i := 405) (by decide +kernel)⟩
theorem lw_p1 : lw_okq (⟨"ShardTrails", "isReader", "(I)Z"⟩, 7) := ⟨⟨by decide +kernel, by decide +kernel⟩, List.mem_of_getElem? (i := 15) (by decide +kernel), List.mem_of_getElem? (i := 514) (by decide +kernel), List.mem_of_getElem? (i := 515) (by decide +kernel)⟩
theorem lw_p2 : lw_okq (⟨"ShardTrails", "serve", "(III)I"⟩, 7) := ⟨⟨by decide +kernel, by decide +kernel⟩, List.mem_of_getElem? (i := 15) (by decide +kernel), List.mem_of_getElem? (i := 521) (by decide +kernel), List.mem_of_getElem? (i := 522) (by decide +kernel)⟩
theorem lw_p3 : lw_okq (⟨"ShardTrails$Route", "begin", "(I)V"⟩, 9) := ⟨⟨by decide +kernel, by decide +kernel⟩, List.mem_of_getElem? (i := 254) (by decide +kernel), List.mem_of_getElem? (i := 530) (by decide +kernel), List.mem_of_getElem? (i := 531) (by decide +kernel)⟩
theorem lw_p4 : lw_okq (⟨"ShardTrails$Route", "put", "(I)V"⟩, 9) := ⟨⟨by decide +kernel, by decide +kernel⟩, List.mem_of_getElem? (i := 254) (by decide +kernel), List.mem_of_getElem? (i := 534) (by decide +kernel), List.mem_of_getElem? (i := 535) (by decide +kernel)⟩
theorem lw_p5 : lw_okq (⟨"ShardTrails$Route", "next", "(LShardTrails$State;II)I"⟩, 9) := ⟨⟨by decide +kernel, by decide +kernel⟩, List.mem_of_getElem? (i := 254) (by decide +kernel), List.mem_of_getElem? (i := 538) (by decide +kernel), List.mem_of_getElem? (i := 539) (by decide +kernel)⟩
theorem lw_p6 : lw_okq (⟨"ShardTrails$Route", "nearestNewInn", "(LShardTrails$Land;I)I"⟩, 9) := ⟨⟨by decide +kernel, by decide +kernel⟩, List.mem_of_getElem? (i := 254) (by decide +kernel), List.mem_of_getElem? (i := 543) (by decide +kernel), List.mem_of_getElem? (i := 544) (by decide +kernel)⟩
def lw_privs_1 : List (MethodName × Nat) := [(⟨"ShardTrails", "isPasture", "(I)Z"⟩, 7), (⟨"ShardTrails", "isReader", "(I)Z"⟩, 7), (⟨"ShardTrails", "serve", "(III)I"⟩, 7), (⟨"ShardTrails$Route", "begin", "(I)V"⟩, 9), (⟨"ShardTrails$Route", "put", "(I)V"⟩, 9), (⟨"ShardTrails$Route", "next", "(LShardTrails$State;II)I"⟩, 9), (⟨"ShardTrails$Route", "nearestNewInn", "(LShardTrails$Land;I)I"⟩, 9)]
theorem lw_r1 : ∀ q ∈ lw_privs_1, lw_okq q := List.forall_mem_cons.mpr ⟨lw_p0, List.forall_mem_cons.mpr ⟨lw_p1, List.forall_mem_cons.mpr ⟨lw_p2, List.forall_mem_cons.mpr ⟨lw_p3, List.forall_mem_cons.mpr ⟨lw_p4, List.forall_mem_cons.mpr ⟨lw_p5, List.forall_mem_cons.mpr ⟨lw_p6, fun _ h => absurd h List.not_mem_nil⟩⟩⟩⟩⟩⟩⟩
def lw_privs : List (MethodName × Nat) := lw_privs_1
def lw_tbl : List Cond := k2_sels lw_privs ++ tables_1
theorem lw_privs_ok : ∀ q ∈ lw_privs, lw_okq q := lw_r1
/-! ===== BEGIN words of one list among another's, by their places ===== -/
theorem goodIn_r {big : List Cond} (ws : List Cond) (ps : List Nat) (hp : ws = ps.filterMap (fun i => big[i]?)) (h : ws.all goodWord = true) : GoodIn big ws := by
  intro w hw
  have h1 := List.all_eq_true.mp h w hw
  rw [hp] at hw
  obtain ⟨i, -, hi⟩ := List.mem_filterMap.mp hw
  have hm : w ∈ big := by first | exact List.mem_of_getElem? hi | exact List.getElem?_mem hi
  exact ⟨hm, good_of_word h1⟩
theorem goodIn_app {big a b : List Cond} (ha : GoodIn big a) (hb : GoodIn big b) : GoodIn big (a ++ b) := fun w h => (List.mem_append.mp h).elim (ha w) (hb w)
theorem goodIn_ca {big a b : List Cond} {c : Cond} (ha : GoodIn big (c :: a)) (hb : GoodIn big b) : GoodIn big (c :: (a ++ b)) := fun w h => (List.mem_cons.mp h).elim (fun e => ha w (List.mem_cons.mpr (Or.inl e))) (fun h => (List.mem_append.mp h).elim (fun h => ha w (List.mem_cons.mpr (Or.inr h))) (hb w))
theorem goodIn_sub {big ws : List Cond} (hm : ∀ w ∈ ws, w ∈ big) (h : ws.all goodWord = true) : GoodIn big ws := fun w hw => ⟨hm w hw, good_of_word (List.all_eq_true.mp h w hw)⟩
/-! ===== END ===== -/

/-! ===== BEGIN printed: names, fields, word lists, decode rows ===== -/
def RX0 : String := "ShardTrails$Herd"
def TX0 : u_T := fun k => match k with
  | 0 => ("ShardTrails$Herd", "at", "[I", true)
  | 1 => ("ShardTrails$Herd", "heat", "[I", true)
  | 2 => ("ShardTrails$Herd", "moves", "[I", true)
  | _ => ("ShardTrails$Herd", "values", "[I", true)
def tyX0 : Nat → FieldType := fun k => match k with
  | 0 => .array .int
  | 1 => .array .int
  | 2 => .array .int
  | _ => .array .int
abbrev wsX00 : List Cond := u_ws RX0 TX0 4
theorem nmX0 : ∀ a, a < 4 → ∀ b, b < 4 → a ≠ b → (TX0 a).2.1 ≠ (TX0 b).2.1 := by decide +kernel
theorem tyX0_ok : ∀ k, k < 4 → parseFieldDescriptor (TX0 k).2.2.1 = some (tyX0 k) := by decide +kernel
abbrev cX0_init : ByteArray := prog_2_method_1_code
def yX0_init : MethodName := ⟨RX0, "<init>", "()V"⟩
abbrev cX0_copyFrom : ByteArray := prog_2_method_2_code
def yX0_copyFrom : MethodName := ⟨RX0, "copyFrom", "(LShardTrails$Herd;)V"⟩
abbrev cX0_cool : ByteArray := prog_2_method_3_code
def yX0_cool : MethodName := ⟨RX0, "cool", "()V"⟩
abbrev cX0_warm : ByteArray := prog_2_method_4_code
def yX0_warm : MethodName := ⟨RX0, "warm", "(II)V"⟩
abbrev cX0_isAskedBefore : ByteArray := prog_2_method_5_code
def yX0_isAskedBefore : MethodName := ⟨RX0, "isAskedBefore", "(II)Z"⟩
abbrev cX0_placeByHeat : ByteArray := prog_2_method_6_code
def yX0_placeByHeat : MethodName := ⟨RX0, "placeByHeat", "(I)I"⟩
abbrev cX0_sortByHeat : ByteArray := prog_2_method_7_code
def yX0_sortByHeat : MethodName := ⟨RX0, "sortByHeat", "([I)V"⟩
abbrev cX0_heatIn : ByteArray := prog_2_method_8_code
def yX0_heatIn : MethodName := ⟨RX0, "heatIn", "(I)I"⟩
abbrev cX0_sumOfValues : ByteArray := prog_2_method_9_code
def yX0_sumOfValues : MethodName := ⟨RX0, "sumOfValues", "(I)I"⟩
def RX1 : String := "ShardTrails$History"
def TX1 : u_T := fun k => match k with
  | 0 => ("ShardTrails$History", "number", "I", false)
  | 1 => ("ShardTrails$History", "oldest", "I", false)
  | _ => ("ShardTrails$History", "states", "[LShardTrails$State;", true)
def tyX1 : Nat → FieldType := fun k => match k with
  | 0 => .int
  | 1 => .int
  | _ => .array (.object "ShardTrails$State")
abbrev wsX10 : List Cond := u_ws RX1 TX1 3
theorem nmX1 : ∀ a, a < 3 → ∀ b, b < 3 → a ≠ b → (TX1 a).2.1 ≠ (TX1 b).2.1 := by decide +kernel
theorem tyX1_ok : ∀ k, k < 3 → parseFieldDescriptor (TX1 k).2.2.1 = some (tyX1 k) := by decide +kernel
abbrev cX1_init : ByteArray := prog_3_method_1_code
def yX1_init : MethodName := ⟨RX1, "<init>", "()V"⟩
abbrev cX1_store : ByteArray := prog_3_method_2_code
def yX1_store : MethodName := ⟨RX1, "store", "(LShardTrails$State;)V"⟩
abbrev cX1_takeBack : ByteArray := prog_3_method_3_code
def yX1_takeBack : MethodName := ⟨RX1, "takeBack", "(LShardTrails$State;)V"⟩
def RX2 : String := "ShardTrails$Land"
def TX2 : u_T := fun k => match k with
  | 0 => ("ShardTrails$Land", "number", "I", false)
  | 1 => ("ShardTrails$Land", "latitude", "[I", true)
  | 2 => ("ShardTrails$Land", "room", "[I", true)
  | 3 => ("ShardTrails$Land", "herdSize", "[I", true)
  | 4 => ("ShardTrails$Land", "sentTo", "[I", true)
  | 5 => ("ShardTrails$Land", "inn", "[Z", true)
  | _ => ("ShardTrails$Land", "posted", "[I", true)
def tyX2 : Nat → FieldType := fun k => match k with
  | 0 => .int
  | 1 => .array .int
  | 2 => .array .int
  | 3 => .array .int
  | 4 => .array .int
  | 5 => .array .boolean
  | _ => .array .int
abbrev wsX20 : List Cond := u_ws RX2 TX2 7
theorem nmX2 : ∀ a, a < 7 → ∀ b, b < 7 → a ≠ b → (TX2 a).2.1 ≠ (TX2 b).2.1 := by decide +kernel
theorem tyX2_ok : ∀ k, k < 7 → parseFieldDescriptor (TX2 k).2.2.1 = some (tyX2 k) := by decide +kernel
abbrev cX2_init : ByteArray := prog_4_method_1_code
def yX2_init : MethodName := ⟨RX2, "<init>", "()V"⟩
abbrev cX2_copyFrom : ByteArray := prog_4_method_2_code
def yX2_copyFrom : MethodName := ⟨RX2, "copyFrom", "(LShardTrails$Land;)V"⟩
abbrev cX2_found : ByteArray := prog_4_method_3_code
def yX2_found : MethodName := ⟨RX2, "found", "(IIZ)I"⟩
abbrev cX2_inns : ByteArray := prog_4_method_4_code
def yX2_inns : MethodName := ⟨RX2, "inns", "()I"⟩
abbrev cX2_hasRoom : ByteArray := prog_4_method_5_code
def yX2_hasRoom : MethodName := ⟨RX2, "hasRoom", "(I)Z"⟩
abbrev cX2_distance : ByteArray := prog_4_method_6_code
def yX2_distance : MethodName := ⟨RX2, "distance", "(II)I"⟩
abbrev cX2_forgetPosted : ByteArray := prog_4_method_7_code
def yX2_forgetPosted : MethodName := ⟨RX2, "forgetPosted", "(I)V"⟩
abbrev cX2_tellAll : ByteArray := prog_4_method_8_code
def yX2_tellAll : MethodName := ⟨RX2, "tellAll", "([I)V"⟩
abbrev cX2_bestOther : ByteArray := prog_4_method_9_code
def yX2_bestOther : MethodName := ⟨RX2, "bestOther", "(II)I"⟩
def RX3 : String := "ShardTrails$Pack"
def TX3 : u_T := fun k => match k with
  | 0 => ("ShardTrails$Pack", "number", "I", false)
  | 1 => ("ShardTrails$Pack", "at", "[I", true)
  | _ => ("ShardTrails$Pack", "stride", "[I", true)
def tyX3 : Nat → FieldType := fun k => match k with
  | 0 => .int
  | 1 => .array .int
  | _ => .array .int
abbrev wsX30 : List Cond := u_ws RX3 TX3 3
theorem nmX3 : ∀ a, a < 3 → ∀ b, b < 3 → a ≠ b → (TX3 a).2.1 ≠ (TX3 b).2.1 := by decide +kernel
theorem tyX3_ok : ∀ k, k < 3 → parseFieldDescriptor (TX3 k).2.2.1 = some (tyX3 k) := by decide +kernel
abbrev cX3_init : ByteArray := prog_5_method_1_code
def yX3_init : MethodName := ⟨RX3, "<init>", "()V"⟩
abbrev cX3_copyFrom : ByteArray := prog_5_method_2_code
def yX3_copyFrom : MethodName := ⟨RX3, "copyFrom", "(LShardTrails$Pack;)V"⟩
abbrev cX3_join : ByteArray := prog_5_method_3_code
def yX3_join : MethodName := ⟨RX3, "join", "(II)I"⟩
abbrev cX3_advance : ByteArray := prog_5_method_4_code
def yX3_advance : MethodName := ⟨RX3, "advance", "(II)V"⟩
abbrev cX3_countIn : ByteArray := prog_5_method_5_code
def yX3_countIn : MethodName := ⟨RX3, "countIn", "(I)I"⟩
def RX4 : String := "ShardTrails$Readers"
def TX4 : u_T := fun k => match k with
  | 0 => ("ShardTrails$Readers", "number", "I", false)
  | 1 => ("ShardTrails$Readers", "home", "[I", true)
  | 2 => ("ShardTrails$Readers", "requests", "[I", true)
  | 3 => ("ShardTrails$Readers", "hops", "[I", true)
  | 4 => ("ShardTrails$Readers", "cries", "[I", true)
  | 5 => ("ShardTrails$Readers", "mostHops", "[I", true)
  | _ => ("ShardTrails$Readers", "memory", "[I", true)
def tyX4 : Nat → FieldType := fun k => match k with
  | 0 => .int
  | 1 => .array .int
  | 2 => .array .int
  | 3 => .array .int
  | 4 => .array .int
  | 5 => .array .int
  | _ => .array .int
abbrev wsX40 : List Cond := u_ws RX4 TX4 7
theorem nmX4 : ∀ a, a < 7 → ∀ b, b < 7 → a ≠ b → (TX4 a).2.1 ≠ (TX4 b).2.1 := by decide +kernel
theorem tyX4_ok : ∀ k, k < 7 → parseFieldDescriptor (TX4 k).2.2.1 = some (tyX4 k) := by decide +kernel
abbrev cX4_init : ByteArray := prog_6_method_1_code
def yX4_init : MethodName := ⟨RX4, "<init>", "()V"⟩
abbrev cX4_copyFrom : ByteArray := prog_6_method_2_code
def yX4_copyFrom : MethodName := ⟨RX4, "copyFrom", "(LShardTrails$Readers;)V"⟩
abbrev cX4_join : ByteArray := prog_6_method_3_code
def yX4_join : MethodName := ⟨RX4, "join", "(I)I"⟩
abbrev cX4_note : ByteArray := prog_6_method_4_code
def yX4_note : MethodName := ⟨RX4, "note", "(IIILShardTrails$Route;)V"⟩
def RX5 : String := "ShardTrails$RequestText"
def TX5 : u_T := fun k => match k with
  | 0 => ("ShardTrails$RequestText", "length", "I", false)
  | 1 => ("ShardTrails$RequestText", "number", "I", false)
  | 2 => ("ShardTrails$RequestText", "readers", "[I", true)
  | 3 => ("ShardTrails$RequestText", "keys", "[I", true)
  | 4 => ("ShardTrails$RequestText", "values", "[I", true)
  | 5 => ("ShardTrails$RequestText", "characters", "[C", true)
  | _ => ("ShardTrails$RequestText", "next", "I", false)
def tyX5 : Nat → FieldType := fun k => match k with
  | 0 => .int
  | 1 => .int
  | 2 => .array .int
  | 3 => .array .int
  | 4 => .array .int
  | 5 => .array .char
  | _ => .int
abbrev wsX50 : List Cond := u_ws RX5 TX5 7
theorem nmX5 : ∀ a, a < 7 → ∀ b, b < 7 → a ≠ b → (TX5 a).2.1 ≠ (TX5 b).2.1 := by decide +kernel
theorem tyX5_ok : ∀ k, k < 7 → parseFieldDescriptor (TX5 k).2.2.1 = some (tyX5 k) := by decide +kernel
abbrev cX5_init : ByteArray := prog_7_method_1_code
def yX5_init : MethodName := ⟨RX5, "<init>", "()V"⟩
def RX6 : String := "ShardTrails$Route"
def TX6 : u_T := fun k => match k with
  | 0 => ("ShardTrails$Route", "hops", "I", false)
  | 1 => ("ShardTrails$Route", "followed", "I", false)
  | 2 => ("ShardTrails$Route", "askedInns", "I", false)
  | 3 => ("ShardTrails$Route", "sentInns", "I", false)
  | 4 => ("ShardTrails$Route", "cried", "Z", false)
  | 5 => ("ShardTrails$Route", "length", "I", false)
  | 6 => ("ShardTrails$Route", "places", "[I", true)
  | 7 => ("ShardTrails$Route", "asked", "[Z", true)
  | _ => ("ShardTrails$Route", "sent", "[Z", true)
def tyX6 : Nat → FieldType := fun k => match k with
  | 0 => .int
  | 1 => .int
  | 2 => .int
  | 3 => .int
  | 4 => .boolean
  | 5 => .int
  | 6 => .array .int
  | 7 => .array .boolean
  | _ => .array .boolean
abbrev wsX60 : List Cond := u_ws RX6 TX6 9
theorem nmX6 : ∀ a, a < 9 → ∀ b, b < 9 → a ≠ b → (TX6 a).2.1 ≠ (TX6 b).2.1 := by decide +kernel
theorem tyX6_ok : ∀ k, k < 9 → parseFieldDescriptor (TX6 k).2.2.1 = some (tyX6 k) := by decide +kernel
abbrev cX6_init : ByteArray := prog_8_method_1_code
def yX6_init : MethodName := ⟨RX6, "<init>", "()V"⟩
abbrev cX6_find : ByteArray := prog_8_method_2_code
def yX6_find : MethodName := ⟨RX6, "find", "(LShardTrails$State;II)V"⟩
abbrev cX6_begin : ByteArray := prog_8_method_3_code
def yX6_begin : MethodName := ⟨RX6, "begin", "(I)V"⟩
abbrev cX6_put : ByteArray := prog_8_method_4_code
def yX6_put : MethodName := ⟨RX6, "put", "(I)V"⟩
abbrev cX6_next : ByteArray := prog_8_method_5_code
def yX6_next : MethodName := ⟨RX6, "next", "(LShardTrails$State;II)I"⟩
abbrev cX6_nearestNewInn : ByteArray := prog_8_method_6_code
def yX6_nearestNewInn : MethodName := ⟨RX6, "nearestNewInn", "(LShardTrails$Land;I)I"⟩
def RX7 : String := "ShardTrails$State"
def TX7 : u_T := fun k => match k with
  | 0 => ("ShardTrails$State", "day", "I", false)
  | 1 => ("ShardTrails$State", "cutTracks", "I", false)
  | 2 => ("ShardTrails$State", "overgrownTracks", "I", false)
  | 3 => ("ShardTrails$State", "numbers", "[I", true)
  | 4 => ("ShardTrails$State", "latitudes", "[I", true)
  | 5 => ("ShardTrails$State", "land", "LShardTrails$Land;", true)
  | 6 => ("ShardTrails$State", "tracks", "LShardTrails$Tracks;", true)
  | 7 => ("ShardTrails$State", "herd", "LShardTrails$Herd;", true)
  | 8 => ("ShardTrails$State", "pack", "LShardTrails$Pack;", true)
  | 9 => ("ShardTrails$State", "readers", "LShardTrails$Readers;", true)
  | _ => ("ShardTrails$State", "order", "[I", true)
def tyX7 : Nat → FieldType := fun k => match k with
  | 0 => .int
  | 1 => .int
  | 2 => .int
  | 3 => .array .int
  | 4 => .array .int
  | 5 => .object "ShardTrails$Land"
  | 6 => .object "ShardTrails$Tracks"
  | 7 => .object "ShardTrails$Herd"
  | 8 => .object "ShardTrails$Pack"
  | 9 => .object "ShardTrails$Readers"
  | _ => .array .int
abbrev wsX70 : List Cond := u_ws RX7 TX7 11
theorem nmX7 : ∀ a, a < 11 → ∀ b, b < 11 → a ≠ b → (TX7 a).2.1 ≠ (TX7 b).2.1 := by decide +kernel
theorem tyX7_ok : ∀ k, k < 11 → parseFieldDescriptor (TX7 k).2.2.1 = some (tyX7 k) := by decide +kernel
abbrev cX7_init : ByteArray := prog_9_method_1_code
def yX7_init : MethodName := ⟨RX7, "<init>", "()V"⟩
abbrev cX7_copyFrom : ByteArray := prog_9_method_2_code
def yX7_copyFrom : MethodName := ⟨RX7, "copyFrom", "(LShardTrails$State;)V"⟩
abbrev cX7_season : ByteArray := prog_9_method_3_code
def yX7_season : MethodName := ⟨RX7, "season", "()I"⟩
abbrev cX7_seasonLatitude : ByteArray := prog_9_method_4_code
def yX7_seasonLatitude : MethodName := ⟨RX7, "seasonLatitude", "()I"⟩
abbrev cX7_passDay : ByteArray := prog_9_method_5_code
def yX7_passDay : MethodName := ⟨RX7, "passDay", "()I"⟩
abbrev cX7_passDayOfHerd : ByteArray := prog_9_method_6_code
def yX7_passDayOfHerd : MethodName := ⟨RX7, "passDayOfHerd", "()V"⟩
abbrev cX7_letWolvesGo : ByteArray := prog_9_method_7_code
def yX7_letWolvesGo : MethodName := ⟨RX7, "letWolvesGo", "()V"⟩
abbrev cX7_letWolfCut : ByteArray := prog_9_method_8_code
def yX7_letWolfCut : MethodName := ⟨RX7, "letWolfCut", "(I)I"⟩
abbrev cX7_tracksInReach : ByteArray := prog_9_method_9_code
def yX7_tracksInReach : MethodName := ⟨RX7, "tracksInReach", "(I)I"⟩
abbrev cX7_letTracksGrowOver : ByteArray := prog_9_method_10_code
def yX7_letTracksGrowOver : MethodName := ⟨RX7, "letTracksGrowOver", "()V"⟩
abbrev cX7_driveHerd : ByteArray := prog_9_method_11_code
def yX7_driveHerd : MethodName := ⟨RX7, "driveHerd", "()I"⟩
abbrev cX7_drive : ByteArray := prog_9_method_12_code
def yX7_drive : MethodName := ⟨RX7, "drive", "(II)V"⟩
abbrev cX7_letInnsPostOnTheirDay : ByteArray := prog_9_method_13_code
def yX7_letInnsPostOnTheirDay : MethodName := ⟨RX7, "letInnsPostOnTheirDay", "()V"⟩
abbrev cX7_letInnsPost : ByteArray := prog_9_method_14_code
def yX7_letInnsPost : MethodName := ⟨RX7, "letInnsPost", "()V"⟩
abbrev cX7_noteRequest : ByteArray := prog_9_method_15_code
def yX7_noteRequest : MethodName := ⟨RX7, "noteRequest", "(IILShardTrails$Route;)V"⟩
def RX8 : String := "ShardTrails$Tracks"
def TX8 : u_T := fun k => match k with
  | 0 => ("ShardTrails$Tracks", "leadsTo", "[I", true)
  | _ => ("ShardTrails$Tracks", "leftOn", "[I", true)
def tyX8 : Nat → FieldType := fun k => match k with
  | 0 => .array .int
  | _ => .array .int
abbrev wsX80 : List Cond := u_ws RX8 TX8 2
theorem nmX8 : ∀ a, a < 2 → ∀ b, b < 2 → a ≠ b → (TX8 a).2.1 ≠ (TX8 b).2.1 := by decide +kernel
theorem tyX8_ok : ∀ k, k < 2 → parseFieldDescriptor (TX8 k).2.2.1 = some (tyX8 k) := by decide +kernel
abbrev cX8_init : ByteArray := prog_10_method_1_code
def yX8_init : MethodName := ⟨RX8, "<init>", "()V"⟩
abbrev cX8_copyFrom : ByteArray := prog_10_method_2_code
def yX8_copyFrom : MethodName := ⟨RX8, "copyFrom", "(LShardTrails$Tracks;)V"⟩
abbrev cX8_isAt : ByteArray := prog_10_method_3_code
def yX8_isAt : MethodName := ⟨RX8, "isAt", "(II)Z"⟩
abbrev cX8_leave : ByteArray := prog_10_method_4_code
def yX8_leave : MethodName := ⟨RX8, "leave", "(IIII)V"⟩
abbrev cX8_removeLeftUntil : ByteArray := prog_10_method_5_code
def yX8_removeLeftUntil : MethodName := ⟨RX8, "removeLeftUntil", "(II)I"⟩
abbrev cX8_countIn : ByteArray := prog_10_method_6_code
def yX8_countIn : MethodName := ⟨RX8, "countIn", "(I)I"⟩
abbrev cX8_countOf : ByteArray := prog_10_method_7_code
def yX8_countOf : MethodName := ⟨RX8, "countOf", "(I)I"⟩
abbrev cX8_countAll : ByteArray := prog_10_method_8_code
def yX8_countAll : MethodName := ⟨RX8, "countAll", "()I"⟩
def RX9 : String := "ShardTrails"
def TX9 : u_T := fun k => match k with
  | 0 => ("ShardTrails", "state", "LShardTrails$State;", true)
  | 1 => ("ShardTrails", "trial", "LShardTrails$State;", true)
  | 2 => ("ShardTrails", "snapshot", "LShardTrails$State;", true)
  | 3 => ("ShardTrails", "history", "LShardTrails$History;", true)
  | 4 => ("ShardTrails", "route", "LShardTrails$Route;", true)
  | 5 => ("ShardTrails", "text", "LShardTrails$RequestText;", true)
  | _ => ("ShardTrails", "hasSnapshot", "Z", false)
def tyX9 : Nat → FieldType := fun k => match k with
  | 0 => .object "ShardTrails$State"
  | 1 => .object "ShardTrails$State"
  | 2 => .object "ShardTrails$State"
  | 3 => .object "ShardTrails$History"
  | 4 => .object "ShardTrails$Route"
  | 5 => .object "ShardTrails$RequestText"
  | _ => .boolean
abbrev wsX90 : List Cond := u_ws RX9 TX9 7
theorem nmX9 : ∀ a, a < 7 → ∀ b, b < 7 → a ≠ b → (TX9 a).2.1 ≠ (TX9 b).2.1 := by decide +kernel
theorem tyX9_ok : ∀ k, k < 7 → parseFieldDescriptor (TX9 k).2.2.1 = some (tyX9 k) := by decide +kernel
abbrev cX9_init : ByteArray := prog_1_method_1_code
def yX9_init : MethodName := ⟨RX9, "<init>", "()V"⟩
abbrev cX9_addPasture : ByteArray := prog_1_method_2_code
def yX9_addPasture : MethodName := ⟨RX9, "addPasture", "(IIZ)I"⟩
abbrev cX9_setRoom : ByteArray := prog_1_method_3_code
def yX9_setRoom : MethodName := ⟨RX9, "setRoom", "(II)I"⟩
abbrev cX9_setInn : ByteArray := prog_1_method_4_code
def yX9_setInn : MethodName := ⟨RX9, "setInn", "(IZ)I"⟩
abbrev cX9_addWolf : ByteArray := prog_1_method_5_code
def yX9_addWolf : MethodName := ⟨RX9, "addWolf", "(II)I"⟩
abbrev cX9_driveWolf : ByteArray := prog_1_method_6_code
def yX9_driveWolf : MethodName := ⟨RX9, "driveWolf", "()I"⟩
abbrev cX9_addReader : ByteArray := prog_1_method_7_code
def yX9_addReader : MethodName := ⟨RX9, "addReader", "(I)I"⟩
abbrev cX9_setSeason : ByteArray := prog_1_method_8_code
def yX9_setSeason : MethodName := ⟨RX9, "setSeason", "(II)I"⟩
abbrev cX9_set : ByteArray := prog_1_method_9_code
def yX9_set : MethodName := ⟨RX9, "set", "(II)I"⟩
abbrev cX9_pass : ByteArray := prog_1_method_10_code
def yX9_pass : MethodName := ⟨RX9, "pass", "(I)I"⟩
abbrev cX9_move : ByteArray := prog_1_method_11_code
def yX9_move : MethodName := ⟨RX9, "move", "(II)I"⟩
abbrev cX9_post : ByteArray := prog_1_method_12_code
def yX9_post : MethodName := ⟨RX9, "post", "()I"⟩
abbrev cX9_cut : ByteArray := prog_1_method_13_code
def yX9_cut : MethodName := ⟨RX9, "cut", "(I)I"⟩
abbrev cX9_request : ByteArray := prog_1_method_14_code
def yX9_request : MethodName := ⟨RX9, "request", "(II)I"⟩
abbrev cX9_write : ByteArray := prog_1_method_15_code
def yX9_write : MethodName := ⟨RX9, "write", "(III)I"⟩
abbrev cX9_undo : ByteArray := prog_1_method_19_code
def yX9_undo : MethodName := ⟨RX9, "undo", "()I"⟩
abbrev cX9_keep : ByteArray := prog_1_method_20_code
def yX9_keep : MethodName := ⟨RX9, "keep", "()I"⟩
abbrev cX9_restore : ByteArray := prog_1_method_21_code
def yX9_restore : MethodName := ⟨RX9, "restore", "()I"⟩
abbrev cX9_pasture : ByteArray := prog_1_method_22_code
def yX9_pasture : MethodName := ⟨RX9, "pasture", "(II)I"⟩
abbrev cX9_track : ByteArray := prog_1_method_23_code
def yX9_track : MethodName := ⟨RX9, "track", "(III)I"⟩
abbrev cX9_shard : ByteArray := prog_1_method_24_code
def yX9_shard : MethodName := ⟨RX9, "shard", "(II)I"⟩
abbrev cX9_value : ByteArray := prog_1_method_25_code
def yX9_value : MethodName := ⟨RX9, "value", "(I)I"⟩
abbrev cX9_reader : ByteArray := prog_1_method_26_code
def yX9_reader : MethodName := ⟨RX9, "reader", "(II)I"⟩
abbrev cX9_remembered : ByteArray := prog_1_method_27_code
def yX9_remembered : MethodName := ⟨RX9, "remembered", "(II)I"⟩
abbrev cX9_reach : ByteArray := prog_1_method_28_code
def yX9_reach : MethodName := ⟨RX9, "reach", "(III)I"⟩
abbrev cX9_way : ByteArray := prog_1_method_29_code
def yX9_way : MethodName := ⟨RX9, "way", "(III)I"⟩
abbrev cX9_movesIn : ByteArray := prog_1_method_30_code
def yX9_movesIn : MethodName := ⟨RX9, "movesIn", "(I)I"⟩
abbrev cX9_count : ByteArray := prog_1_method_31_code
def yX9_count : MethodName := ⟨RX9, "count", "(I)I"⟩
abbrev cX9_serve : ByteArray := prog_1_method_32_code
def yX9_serve : MethodName := ⟨RX9, "serve", "(III)I"⟩
abbrev cX9_isPasture : ByteArray := prog_1_method_33_code
def yX9_isPasture : MethodName := ⟨RX9, "isPasture", "(I)Z"⟩
abbrev cX9_isReader : ByteArray := prog_1_method_34_code
def yX9_isReader : MethodName := ⟨RX9, "isReader", "(I)Z"⟩
abbrev cX9_isShard : ByteArray := prog_1_method_35_code
def yX9_isShard : MethodName := ⟨RX9, "isShard", "(I)Z"⟩
abbrev cX9_isKey : ByteArray := prog_1_method_36_code
def yX9_isKey : MethodName := ⟨RX9, "isKey", "(I)Z"⟩
abbrev cX9_isWithin : ByteArray := prog_1_method_37_code
def yX9_isWithin : MethodName := ⟨RX9, "isWithin", "(III)Z"⟩
abbrev cX9_cell : ByteArray := prog_1_method_38_code
def yX9_cell : MethodName := ⟨RX9, "cell", "(II)I"⟩
abbrev cX9_sum : ByteArray := prog_1_method_39_code
def yX9_sum : MethodName := ⟨RX9, "sum", "([II)I"⟩
abbrev cX9_copyRow : ByteArray := prog_1_method_40_code
def yX9_copyRow : MethodName := ⟨RX9, "copyRow", "([I[I)V"⟩
def RX10 : String := "ShardTrailsModel"
def TX10 : u_T := fun k => match k with
  | _ => ("", "", "", false)
def tyX10 : Nat → FieldType := fun k => match k with
  | _ => .int
abbrev wsX100 : List Cond := u_ws RX10 TX10 0
theorem nmX10 : ∀ a, a < 0 → ∀ b, b < 0 → a ≠ b → (TX10 a).2.1 ≠ (TX10 b).2.1 := by decide +kernel
theorem tyX10_ok : ∀ k, k < 0 → parseFieldDescriptor (TX10 k).2.2.1 = some (tyX10 k) := by decide +kernel
def RJx8e188 : String := "java/lang/Cloneable"
def TJx8e188 : u_T := fun k => match k with
  | _ => ("", "", "", false)
def tyJx8e188 : Nat → FieldType := fun k => match k with
  | _ => .int
abbrev wsJx8e1880 : List Cond := u_ws RJx8e188 TJx8e188 0
theorem nmJx8e188 : ∀ a, a < 0 → ∀ b, b < 0 → a ≠ b → (TJx8e188 a).2.1 ≠ (TJx8e188 b).2.1 := by decide +kernel
theorem tyJx8e188_ok : ∀ k, k < 0 → parseFieldDescriptor (TJx8e188 k).2.2.1 = some (tyJx8e188 k) := by decide +kernel
def RJ9 : String := "java/lang/Math"
def TJ9 : u_T := fun k => match k with
  | _ => ("", "", "", false)
def tyJ9 : Nat → FieldType := fun k => match k with
  | _ => .int
abbrev wsJ90 : List Cond := u_ws RJ9 TJ9 0
theorem nmJ9 : ∀ a, a < 0 → ∀ b, b < 0 → a ≠ b → (TJ9 a).2.1 ≠ (TJ9 b).2.1 := by decide +kernel
theorem tyJ9_ok : ∀ k, k < 0 → parseFieldDescriptor (TJ9 k).2.2.1 = some (tyJ9 k) := by decide +kernel
abbrev cJ9_abs_0f7a4 : ByteArray := prog_14_method_59_code
def yJ9_abs_0f7a4 : MethodName := ⟨RJ9, "abs", "(I)I"⟩
abbrev cJ9_max_7cf53 : ByteArray := prog_14_method_65_code
def yJ9_max_7cf53 : MethodName := ⟨RJ9, "max", "(II)I"⟩
abbrev cJ9_min_7cf53 : ByteArray := prog_14_method_69_code
def yJ9_min_7cf53 : MethodName := ⟨RJ9, "min", "(II)I"⟩
def RJ10 : String := "java/lang/System"
def TJ10 : u_T := fun k => match k with
  | _ => ("", "", "", false)
def tyJ10 : Nat → FieldType := fun k => match k with
  | _ => .int
abbrev wsJ100 : List Cond := u_ws RJ10 TJ10 0
theorem nmJ10 : ∀ a, a < 0 → ∀ b, b < 0 → a ≠ b → (TJ10 a).2.1 ≠ (TJ10 b).2.1 := by decide +kernel
theorem tyJ10_ok : ∀ k, k < 0 → parseFieldDescriptor (TJ10 k).2.2.1 = some (tyJ10 k) := by decide +kernel
def RJ7 : String := "java/util/Arrays"
def TJ7 : u_T := fun k => match k with
  | _ => ("", "", "", false)
def tyJ7 : Nat → FieldType := fun k => match k with
  | _ => .int
abbrev wsJ70 : List Cond := u_ws RJ7 TJ7 0
theorem nmJ7 : ∀ a, a < 0 → ∀ b, b < 0 → a ≠ b → (TJ7 a).2.1 ≠ (TJ7 b).2.1 := by decide +kernel
theorem tyJ7_ok : ∀ k, k < 0 → parseFieldDescriptor (TJ7 k).2.2.1 = some (tyJ7 k) := by decide +kernel
abbrev cJ7_fill_53178 : ByteArray := prog_16_method_103_code
def yJ7_fill_53178 : MethodName := ⟨RJ7, "fill", "([II)V"⟩
def RL : String := "ShardTrailsLaw"
abbrev cL_cell : ByteArray := method_2_code
def yL_cell : MethodName := ⟨RL, "cell", "([II)I"⟩
abbrev cL_low : ByteArray := method_3_code
def yL_low : MethodName := ⟨RL, "low", "(II)I"⟩
abbrev cL_all : ByteArray := method_4_code
def yL_all : MethodName := ⟨RL, "all", "(LShardTrails;)J"⟩
abbrev cL_isSound : ByteArray := method_5_code
def yL_isSound : MethodName := ⟨RL, "isSound", "(LShardTrails;)Z"⟩
abbrev cL_isReached : ByteArray := method_6_code
def yL_isReached : MethodName := ⟨RL, "isReached", "(LShardTrails;I)Z"⟩
abbrev cL_isForetold : ByteArray := method_7_code
def yL_isForetold : MethodName := ⟨RL, "isForetold", "(LShardTrails;I)Z"⟩
abbrev cL_acts : ByteArray := method_8_code
def yL_acts : MethodName := ⟨RL, "acts", "(LShardTrails;I)I"⟩
abbrev cL_law : ByteArray := code
def yL_law : MethodName := ⟨RL, "law", "([I)Z"⟩
abbrev vwCl : List vw_C := [(RX0, TX0, 4), (RX1, TX1, 3), (RX2, TX2, 7), (RX3, TX3, 3), (RX4, TX4, 7), (RX5, TX5, 7), (RX6, TX6, 9), (RX7, TX7, 11), (RX8, TX8, 2), (RX9, TX9, 7)]
def wsU : List Cond := lw_tbl.filter goodWord
theorem wsU_good : GoodIn wsU wsU := fun w h => ⟨h, good_of_word (List.mem_filter.mp h).2⟩
theorem wsU_at {w : Cond} (i : Nat) (h : lw_tbl[i]? = some w) (hg : goodWord w = true) : w ∈ wsU := List.mem_filter.mpr ⟨List.mem_of_getElem? h, hg⟩
theorem wsU_ats (ws : List Cond) (ps : List Nat) (hp : ps.filterMap (fun i => lw_tbl[i]?) = ws) (hg : ws.all goodWord = true) : ∀ w ∈ ws, w ∈ wsU := by
  intro w hw
  have h1 := List.all_eq_true.mp hg w hw
  rw [← hp] at hw
  obtain ⟨i, -, hi⟩ := List.mem_filterMap.mp hw
  exact wsU_at i hi h1
theorem wsU_c0 {w : Cond} (i : Nat) (h : (k2_sels lw_privs)[i]? = some w) (hg : goodWord w = true) : w ∈ wsU := List.mem_filter.mpr ⟨List.mem_append_left _ (List.mem_of_getElem? h), hg⟩
theorem wsU_c1 {w : Cond} (i : Nat) (h : tables_1_1[i]? = some w) (hg : goodWord w = true) : w ∈ wsU := List.mem_filter.mpr ⟨List.mem_append_right _ (List.mem_append_left _ (List.mem_of_getElem? h)), hg⟩
theorem wsU_c2 {w : Cond} (i : Nat) (h : tables_1_2[i]? = some w) (hg : goodWord w = true) : w ∈ wsU := List.mem_filter.mpr ⟨List.mem_append_right _ (List.mem_append_right _ (List.mem_append_left _ (List.mem_of_getElem? h))), hg⟩
theorem wsU_c3 {w : Cond} (i : Nat) (h : tables_1_3[i]? = some w) (hg : goodWord w = true) : w ∈ wsU := List.mem_filter.mpr ⟨List.mem_append_right _ (List.mem_append_right _ (List.mem_append_right _ (List.mem_append_left _ (List.mem_of_getElem? h)))), hg⟩
theorem wsU_c4 {w : Cond} (i : Nat) (h : tables_1_4[i]? = some w) (hg : goodWord w = true) : w ∈ wsU := List.mem_filter.mpr ⟨List.mem_append_right _ (List.mem_append_right _ (List.mem_append_right _ (List.mem_append_right _ (List.mem_of_getElem? h)))), hg⟩
theorem inX0 : ∀ w ∈ wsX00, w ∈ wsU := wsU_ats _ [128, 130, 132, 134] (by decide +kernel) (by decide +kernel)
theorem inX1 : ∀ w ∈ wsX10, w ∈ wsU := wsU_ats _ [253, 255, 257] (by decide +kernel) (by decide +kernel)
theorem inX2 : ∀ w ∈ wsX20, w ∈ wsU := wsU_ats _ [77, 79, 81, 83, 85, 87, 89] (by decide +kernel) (by decide +kernel)
theorem inX3 : ∀ w ∈ wsX30, w ∈ wsU := wsU_ats _ [149, 151, 153] (by decide +kernel) (by decide +kernel)
theorem inX4 : ∀ w ∈ wsX40, w ∈ wsU := wsU_ats _ [177, 179, 181, 183, 185, 187, 189] (by decide +kernel) (by decide +kernel)
theorem inX5 : ∀ w ∈ wsX50, w ∈ wsU := wsU_ats _ [315, 317, 319, 321, 323, 325, 327] (by decide +kernel) (by decide +kernel)
theorem inX6 : ∀ w ∈ wsX60, w ∈ wsU := wsU_ats _ [285, 287, 289, 291, 293, 295, 297, 299, 301] (by decide +kernel) (by decide +kernel)
theorem inX7 : ∀ w ∈ wsX70, w ∈ wsU := wsU_ats _ [217, 219, 221, 223, 225, 227, 229, 231, 233, 235, 237] (by decide +kernel) (by decide +kernel)
theorem inX8 : ∀ w ∈ wsX80, w ∈ wsU := wsU_ats _ [106, 108] (by decide +kernel) (by decide +kernel)
theorem inX9 : ∀ w ∈ wsX90, w ∈ wsU := wsU_ats _ [338, 340, 342, 344, 346, 348, 350] (by decide +kernel) (by decide +kernel)
