-- ===== PART A: goes FIRST, ahead of the names: the tables' words, and 'selects' of the private methods out of them =====
/-- a private method of a class that the tables say can be made, by its rows of tables_1 -/
def lw_okq (q : MethodName × Nat) : Prop := (q.1.cls ≠ "java/lang/invoke/MethodHandle" ∧ q.1.cls ≠ "java/lang/invoke/VarHandle") ∧ Cond.instantiable q.1.cls q.2 ∈ tables_1 ∧ Cond.privateMethod q.1 ∈ tables_1 ∧ Cond.instanceMethod q.1 ∈ tables_1
theorem lw_p0 : lw_okq (⟨"LoopMixer", "rowsOf", "(Z)[LLoopMixer$Row;"⟩, 9) := ⟨⟨by decide +kernel, by decide +kernel⟩, List.mem_of_getElem? (i := 17) (by decide +kernel), List.mem_of_getElem? (i := 97) (by decide +kernel), List.mem_of_getElem? (i := 98) (by decide +kernel)⟩
theorem lw_p1 : lw_okq (⟨"LoopMixer", "tell", "(J)I"⟩, 9) := ⟨⟨by decide +kernel, by decide +kernel⟩, List.mem_of_getElem? (i := 17) (by decide +kernel), List.mem_of_getElem? (i := 172) (by decide +kernel), List.mem_of_getElem? (i := 173) (by decide +kernel)⟩
theorem lw_p2 : lw_okq (⟨"LoopMixer", "step", "(LLoopMixer$Head;)I"⟩, 9) := ⟨⟨by decide +kernel, by decide +kernel⟩, List.mem_of_getElem? (i := 17) (by decide +kernel), List.mem_of_getElem? (i := 346) (by decide +kernel), List.mem_of_getElem? (i := 347) (by decide +kernel)⟩
theorem lw_p3 : lw_okq (⟨"LoopMixerModel", "asked", "(ZII)I"⟩, 21) := ⟨⟨by decide +kernel, by decide +kernel⟩, List.mem_of_getElem? (i := 394) (by decide +kernel), List.mem_of_getElem? (i := 496) (by decide +kernel), List.mem_of_getElem? (i := 497) (by decide +kernel)⟩
theorem lw_p4 : lw_okq (⟨"LoopMixerModel", "item", "(ZII)D"⟩, 21) := ⟨⟨by decide +kernel, by decide +kernel⟩, List.mem_of_getElem? (i := 394) (by decide +kernel), List.mem_of_getElem? (i := 516) (by decide +kernel), List.mem_of_getElem? (i := 517) (by decide +kernel)⟩
theorem lw_p5 : lw_okq (⟨"LoopMixerModel", "made", "(ID)D"⟩, 21) := ⟨⟨by decide +kernel, by decide +kernel⟩, List.mem_of_getElem? (i := 394) (by decide +kernel), List.mem_of_getElem? (i := 557) (by decide +kernel), List.mem_of_getElem? (i := 558) (by decide +kernel)⟩
theorem lw_p6 : lw_okq (⟨"LoopMixerModel", "step", "(I)I"⟩, 21) := ⟨⟨by decide +kernel, by decide +kernel⟩, List.mem_of_getElem? (i := 394) (by decide +kernel), List.mem_of_getElem? (i := 596) (by decide +kernel), List.mem_of_getElem? (i := 597) (by decide +kernel)⟩
def lw_privs_1 : List (MethodName × Nat) := [(⟨"LoopMixer", "rowsOf", "(Z)[LLoopMixer$Row;"⟩, 9), (⟨"LoopMixer", "tell", "(J)I"⟩, 9), (⟨"LoopMixer", "step", "(LLoopMixer$Head;)I"⟩, 9), (⟨"LoopMixerModel", "asked", "(ZII)I"⟩, 21), (⟨"LoopMixerModel", "item", "(ZII)D"⟩, 21), (⟨"LoopMixerModel", "made", "(ID)D"⟩, 21), (⟨"LoopMixerModel", "step", "(I)I"⟩, 21)]
theorem lw_r1 : ∀ q ∈ lw_privs_1, lw_okq q := List.forall_mem_cons.mpr ⟨lw_p0, List.forall_mem_cons.mpr ⟨lw_p1, List.forall_mem_cons.mpr ⟨lw_p2, List.forall_mem_cons.mpr ⟨lw_p3, List.forall_mem_cons.mpr ⟨lw_p4, List.forall_mem_cons.mpr ⟨lw_p5, List.forall_mem_cons.mpr ⟨lw_p6, fun _ h => absurd h List.not_mem_nil⟩⟩⟩⟩⟩⟩⟩
def lw_privs : List (MethodName × Nat) := lw_privs_1
def lw_tbl : List Cond := k2_sels lw_privs ++ tables_1
theorem lw_privs_ok : ∀ q ∈ lw_privs, lw_okq q := lw_r1
/-- the streams that the claim lets the run draw from -/
abbrev lw_cs : List Choice := [Jvm.Choice.named "NaN.bits", Jvm.Choice.named "NaN.copy"]
theorem lw_bits : nanBits ∈ lw_cs := by first | decide | exact List.mem_cons_self | simp [lw_cs, nanBits]
/-! ===== BEGIN words of one list among another's, by their places ===== -/
theorem goodIn_r {big : List Cond} (ws : List Cond) (ps : List Nat) (hp : ws = ps.filterMap (fun i => big[i]?)) (h : ws.all goodWord = true) : GoodIn big ws := by
  intro w hw
  have h1 := List.all_eq_true.mp h w hw
  rw [hp] at hw
  obtain ⟨i, -, hi⟩ := List.mem_filterMap.mp hw
  have hm : w ∈ big := by first | exact List.mem_of_getElem? hi | exact List.getElem?_mem hi
  exact ⟨hm, good_of_word h1⟩
theorem goodIn_app {big a b : List Cond} (ha : GoodIn big a) (hb : GoodIn big b) : GoodIn big (a ++ b) := fun w h => (List.mem_append.mp h).elim (ha w) (hb w)
theorem goodIn_ca {big a b : List Cond} {c : Cond} (ha : GoodIn big (c :: a)) (hb : GoodIn big b) : GoodIn big (c :: (a ++ b)) := fun w h => (List.mem_cons.mp h).elim (fun e => ha w (List.mem_cons.mpr (Or.inl e))) (fun h => (List.mem_append.mp h).elim (fun h => ha w (List.mem_cons.mpr (Or.inr h))) (hb w))
theorem goodIn_sub {big ws : List Cond} (hm : ∀ w ∈ ws, w ∈ big) (h : ws.all goodWord = true) : GoodIn big ws := fun w hw => ⟨hm w hw, good_of_word (List.all_eq_true.mp h w hw)⟩
/-! ===== END ===== -/

/-! ===== BEGIN printed: names, fields, word lists, decode rows ===== -/
def RX0 : String := "LoopMixer$Crush"
def TX0 : u_T := fun k => match k with
  | _ => ("LoopMixer$Effect", "amount", "D", true)
def tyX0 : Nat → FieldType := fun k => match k with
  | _ => .double
abbrev wsX00 : List Cond := u_ws RX0 TX0 1
theorem nmX0 : ∀ a, a < 1 → ∀ b, b < 1 → a ≠ b → (TX0 a).2.1 ≠ (TX0 b).2.1 := by decide +kernel
theorem tyX0_ok : ∀ k, k < 1 → parseFieldDescriptor (TX0 k).2.2.1 = some (tyX0 k) := by decide +kernel
abbrev cX0_init : ByteArray := prog_2_method_1_code
def yX0_init : MethodName := ⟨RX0, "<init>", "(D)V"⟩
abbrev cX0_hasKind : ByteArray := prog_2_method_2_code
def yX0_hasKind : MethodName := ⟨RX0, "hasKind", "(I)Z"⟩
abbrev cX0_madeFrom : ByteArray := prog_2_method_3_code
def yX0_madeFrom : MethodName := ⟨RX0, "madeFrom", "(D)D"⟩
def RX1 : String := "LoopMixer$DoubleRow"
def TX1 : u_T := fun k => match k with
  | _ => ("LoopMixer$DoubleRow", "items", "[D", true)
def tyX1 : Nat → FieldType := fun k => match k with
  | _ => .array .double
abbrev wsX10 : List Cond := u_ws RX1 TX1 1
theorem nmX1 : ∀ a, a < 1 → ∀ b, b < 1 → a ≠ b → (TX1 a).2.1 ≠ (TX1 b).2.1 := by decide +kernel
theorem tyX1_ok : ∀ k, k < 1 → parseFieldDescriptor (TX1 k).2.2.1 = some (tyX1 k) := by decide +kernel
abbrev cX1_init : ByteArray := prog_3_method_1_code
def yX1_init : MethodName := ⟨RX1, "<init>", "(I)V"⟩
abbrev cX1_size : ByteArray := prog_3_method_2_code
def yX1_size : MethodName := ⟨RX1, "size", "()I"⟩
abbrev cX1_item : ByteArray := prog_3_method_3_code
def yX1_item : MethodName := ⟨RX1, "item", "(I)D"⟩
abbrev cX1_put : ByteArray := prog_3_method_4_code
def yX1_put : MethodName := ⟨RX1, "put", "(ID)V"⟩
def RX2 : String := "LoopMixer$Effect"
def TX2 : u_T := fun k => match k with
  | _ => ("", "", "", false)
def tyX2 : Nat → FieldType := fun k => match k with
  | _ => .int
abbrev wsX20 : List Cond := u_ws RX2 TX2 0
theorem nmX2 : ∀ a, a < 0 → ∀ b, b < 0 → a ≠ b → (TX2 a).2.1 ≠ (TX2 b).2.1 := by decide +kernel
theorem tyX2_ok : ∀ k, k < 0 → parseFieldDescriptor (TX2 k).2.2.1 = some (tyX2 k) := by decide +kernel
abbrev cX2_init : ByteArray := prog_4_method_1_code
def yX2_init : MethodName := ⟨RX2, "<init>", "(D)V"⟩
abbrev cX2_heldFrom : ByteArray := prog_4_method_2_code
def yX2_heldFrom : MethodName := ⟨RX2, "heldFrom", "(F)F"⟩
def RX3 : String := "LoopMixer$FloatRow"
def TX3 : u_T := fun k => match k with
  | _ => ("LoopMixer$FloatRow", "items", "[F", true)
def tyX3 : Nat → FieldType := fun k => match k with
  | _ => .array .float
abbrev wsX30 : List Cond := u_ws RX3 TX3 1
theorem nmX3 : ∀ a, a < 1 → ∀ b, b < 1 → a ≠ b → (TX3 a).2.1 ≠ (TX3 b).2.1 := by decide +kernel
theorem tyX3_ok : ∀ k, k < 1 → parseFieldDescriptor (TX3 k).2.2.1 = some (tyX3 k) := by decide +kernel
abbrev cX3_init : ByteArray := prog_5_method_1_code
def yX3_init : MethodName := ⟨RX3, "<init>", "(I)V"⟩
abbrev cX3_size : ByteArray := prog_5_method_2_code
def yX3_size : MethodName := ⟨RX3, "size", "()I"⟩
abbrev cX3_item : ByteArray := prog_5_method_3_code
def yX3_item : MethodName := ⟨RX3, "item", "(I)D"⟩
abbrev cX3_put : ByteArray := prog_5_method_4_code
def yX3_put : MethodName := ⟨RX3, "put", "(ID)V"⟩
def RX4 : String := "LoopMixer$Fold"
def TX4 : u_T := fun k => match k with
  | _ => ("LoopMixer$Effect", "amount", "D", true)
def tyX4 : Nat → FieldType := fun k => match k with
  | _ => .double
abbrev wsX40 : List Cond := u_ws RX4 TX4 1
theorem nmX4 : ∀ a, a < 1 → ∀ b, b < 1 → a ≠ b → (TX4 a).2.1 ≠ (TX4 b).2.1 := by decide +kernel
theorem tyX4_ok : ∀ k, k < 1 → parseFieldDescriptor (TX4 k).2.2.1 = some (tyX4 k) := by decide +kernel
abbrev cX4_init : ByteArray := prog_6_method_1_code
def yX4_init : MethodName := ⟨RX4, "<init>", "(D)V"⟩
abbrev cX4_hasKind : ByteArray := prog_6_method_2_code
def yX4_hasKind : MethodName := ⟨RX4, "hasKind", "(I)Z"⟩
abbrev cX4_madeFrom : ByteArray := prog_6_method_3_code
def yX4_madeFrom : MethodName := ⟨RX4, "madeFrom", "(D)D"⟩
def RX5 : String := "LoopMixer$Gain"
def TX5 : u_T := fun k => match k with
  | _ => ("LoopMixer$Effect", "amount", "D", true)
def tyX5 : Nat → FieldType := fun k => match k with
  | _ => .double
abbrev wsX50 : List Cond := u_ws RX5 TX5 1
theorem nmX5 : ∀ a, a < 1 → ∀ b, b < 1 → a ≠ b → (TX5 a).2.1 ≠ (TX5 b).2.1 := by decide +kernel
theorem tyX5_ok : ∀ k, k < 1 → parseFieldDescriptor (TX5 k).2.2.1 = some (tyX5 k) := by decide +kernel
abbrev cX5_init : ByteArray := prog_7_method_1_code
def yX5_init : MethodName := ⟨RX5, "<init>", "(D)V"⟩
abbrev cX5_hasKind : ByteArray := prog_7_method_2_code
def yX5_hasKind : MethodName := ⟨RX5, "hasKind", "(I)Z"⟩
abbrev cX5_madeFrom : ByteArray := prog_7_method_3_code
def yX5_madeFrom : MethodName := ⟨RX5, "madeFrom", "(D)D"⟩
def RX6 : String := "LoopMixer$Head"
def TX6 : u_T := fun k => match k with
  | 0 => ("LoopMixer$Head", "track", "I", true)
  | 1 => ("LoopMixer$Head", "curve", "I", true)
  | 2 => ("LoopMixer$Head", "rack", "I", true)
  | 3 => ("LoopMixer$Head", "rate", "D", true)
  | 4 => ("LoopMixer$Head", "place", "D", false)
  | _ => ("LoopMixer$Head", "steps", "J", false)
def tyX6 : Nat → FieldType := fun k => match k with
  | 0 => .int
  | 1 => .int
  | 2 => .int
  | 3 => .double
  | 4 => .double
  | _ => .long
abbrev wsX60 : List Cond := u_ws RX6 TX6 6
theorem nmX6 : ∀ a, a < 6 → ∀ b, b < 6 → a ≠ b → (TX6 a).2.1 ≠ (TX6 b).2.1 := by decide +kernel
theorem tyX6_ok : ∀ k, k < 6 → parseFieldDescriptor (TX6 k).2.2.1 = some (tyX6 k) := by decide +kernel
abbrev cX6_init : ByteArray := prog_8_method_1_code
def yX6_init : MethodName := ⟨RX6, "<init>", "(IIID)V"⟩
abbrev cX6_moveOn : ByteArray := prog_8_method_2_code
def yX6_moveOn : MethodName := ⟨RX6, "moveOn", "(I)V"⟩
def RX7 : String := "LoopMixer$Numbers"
def TX7 : u_T := fun k => match k with
  | _ => ("", "", "", false)
def tyX7 : Nat → FieldType := fun k => match k with
  | _ => .int
abbrev wsX70 : List Cond := u_ws RX7 TX7 0
theorem nmX7 : ∀ a, a < 0 → ∀ b, b < 0 → a ≠ b → (TX7 a).2.1 ≠ (TX7 b).2.1 := by decide +kernel
theorem tyX7_ok : ∀ k, k < 0 → parseFieldDescriptor (TX7 k).2.2.1 = some (tyX7 k) := by decide +kernel
abbrev cX7_isNumber : ByteArray := prog_9_method_2_code
def yX7_isNumber : MethodName := ⟨RX7, "isNumber", "(ZJ)Z"⟩
abbrev cX7_exponentField : ByteArray := prog_9_method_3_code
def yX7_exponentField : MethodName := ⟨RX7, "exponentField", "(ZJ)I"⟩
abbrev cX7_fromBits : ByteArray := prog_9_method_4_code
def yX7_fromBits : MethodName := ⟨RX7, "fromBits", "(ZJ)D"⟩
abbrev cX7_timesPowerOfTwo : ByteArray := prog_9_method_5_code
def yX7_timesPowerOfTwo : MethodName := ⟨RX7, "timesPowerOfTwo", "(DI)D"⟩
abbrev cX7_toBits : ByteArray := prog_9_method_6_code
def yX7_toBits : MethodName := ⟨RX7, "toBits", "(ZD)J"⟩
abbrev cX7_isNegative : ByteArray := prog_9_method_7_code
def yX7_isNegative : MethodName := ⟨RX7, "isNegative", "(D)Z"⟩
abbrev cX7_sizeOf : ByteArray := prog_9_method_8_code
def yX7_sizeOf : MethodName := ⟨RX7, "sizeOf", "(D)D"⟩
abbrev cX7_held : ByteArray := prog_9_method_9_code
def yX7_held : MethodName := ⟨RX7, "held", "(D)F"⟩
abbrev cX7_rest : ByteArray := prog_9_method_10_code
def yX7_rest : MethodName := ⟨RX7, "rest", "(DD)D"⟩
abbrev cX7_greatestPart : ByteArray := prog_9_method_11_code
def yX7_greatestPart : MethodName := ⟨RX7, "greatestPart", "(DD)D"⟩
def RX8 : String := "LoopMixer$Rack"
def TX8 : u_T := fun k => match k with
  | 0 => ("LoopMixer$Rack", "kind", "I", true)
  | _ => ("LoopMixer$Rack", "places", "[LLoopMixer$Effect;", true)
def tyX8 : Nat → FieldType := fun k => match k with
  | 0 => .int
  | _ => .array (.object "LoopMixer$Effect")
abbrev wsX80 : List Cond := u_ws RX8 TX8 2
theorem nmX8 : ∀ a, a < 2 → ∀ b, b < 2 → a ≠ b → (TX8 a).2.1 ≠ (TX8 b).2.1 := by decide +kernel
theorem tyX8_ok : ∀ k, k < 2 → parseFieldDescriptor (TX8 k).2.2.1 = some (tyX8 k) := by decide +kernel
abbrev cX8_init : ByteArray := prog_10_method_1_code
def yX8_init : MethodName := ⟨RX8, "<init>", "(I)V"⟩
abbrev cX8_hasBarePlace : ByteArray := prog_10_method_2_code
def yX8_hasBarePlace : MethodName := ⟨RX8, "hasBarePlace", "()Z"⟩
abbrev cX8_heldFrom : ByteArray := prog_10_method_3_code
def yX8_heldFrom : MethodName := ⟨RX8, "heldFrom", "(F)F"⟩
def RX9 : String := "LoopMixer$Row"
def TX9 : u_T := fun k => match k with
  | _ => ("", "", "", false)
def tyX9 : Nat → FieldType := fun k => match k with
  | _ => .int
abbrev wsX90 : List Cond := u_ws RX9 TX9 0
theorem nmX9 : ∀ a, a < 0 → ∀ b, b < 0 → a ≠ b → (TX9 a).2.1 ≠ (TX9 b).2.1 := by decide +kernel
theorem tyX9_ok : ∀ k, k < 0 → parseFieldDescriptor (TX9 k).2.2.1 = some (tyX9 k) := by decide +kernel
abbrev cX9_init : ByteArray := prog_11_method_1_code
def yX9_init : MethodName := ⟨RX9, "<init>", "()V"⟩
def RX10 : String := "LoopMixer"
def TX10 : u_T := fun k => match k with
  | 0 => ("LoopMixer", "tracks", "[LLoopMixer$Row;", true)
  | 1 => ("LoopMixer", "curves", "[LLoopMixer$Row;", true)
  | 2 => ("LoopMixer", "effects", "[LLoopMixer$Effect;", true)
  | 3 => ("LoopMixer", "racks", "[LLoopMixer$Rack;", true)
  | 4 => ("LoopMixer", "heads", "[LLoopMixer$Head;", true)
  | 5 => ("LoopMixer", "sums", "[F", true)
  | 6 => ("LoopMixer", "ending", "I", false)
  | 7 => ("LoopMixer", "time", "J", false)
  | _ => ("LoopMixer", "latest", "J", false)
def tyX10 : Nat → FieldType := fun k => match k with
  | 0 => .array (.object "LoopMixer$Row")
  | 1 => .array (.object "LoopMixer$Row")
  | 2 => .array (.object "LoopMixer$Effect")
  | 3 => .array (.object "LoopMixer$Rack")
  | 4 => .array (.object "LoopMixer$Head")
  | 5 => .array .float
  | 6 => .int
  | 7 => .long
  | _ => .long
abbrev wsX100 : List Cond := u_ws RX10 TX10 9
theorem nmX10 : ∀ a, a < 9 → ∀ b, b < 9 → a ≠ b → (TX10 a).2.1 ≠ (TX10 b).2.1 := by decide +kernel
theorem tyX10_ok : ∀ k, k < 9 → parseFieldDescriptor (TX10 k).2.2.1 = some (tyX10 k) := by decide +kernel
abbrev cX10_init : ByteArray := prog_1_method_1_code
def yX10_init : MethodName := ⟨RX10, "<init>", "()V"⟩
abbrev cX10_row : ByteArray := prog_1_method_2_code
def yX10_row : MethodName := ⟨RX10, "row", "(ZII)I"⟩
abbrev cX10_share : ByteArray := prog_1_method_3_code
def yX10_share : MethodName := ⟨RX10, "share", "(ZII)I"⟩
abbrev cX10_drop : ByteArray := prog_1_method_4_code
def yX10_drop : MethodName := ⟨RX10, "drop", "(ZI)I"⟩
abbrev cX10_set : ByteArray := prog_1_method_5_code
def yX10_set : MethodName := ⟨RX10, "set", "(ZIIJ)I"⟩
abbrev cX10_get : ByteArray := prog_1_method_6_code
def yX10_get : MethodName := ⟨RX10, "get", "(ZII)I"⟩
abbrev cX10_wrap : ByteArray := prog_1_method_7_code
def yX10_wrap : MethodName := ⟨RX10, "wrap", "(ZIII)I"⟩
abbrev cX10_effect : ByteArray := prog_1_method_8_code
def yX10_effect : MethodName := ⟨RX10, "effect", "(IIJ)I"⟩
abbrev cX10_make : ByteArray := prog_1_method_9_code
def yX10_make : MethodName := ⟨RX10, "make", "(IJ)I"⟩
abbrev cX10_rack : ByteArray := prog_1_method_10_code
def yX10_rack : MethodName := ⟨RX10, "rack", "(II)I"⟩
abbrev cX10_hang : ByteArray := prog_1_method_11_code
def yX10_hang : MethodName := ⟨RX10, "hang", "(III)I"⟩
abbrev cX10_take : ByteArray := prog_1_method_12_code
def yX10_take : MethodName := ⟨RX10, "take", "(IIII)I"⟩
abbrev cX10_head : ByteArray := prog_1_method_13_code
def yX10_head : MethodName := ⟨RX10, "head", "(IIIIJ)I"⟩
abbrev cX10_play : ByteArray := prog_1_method_14_code
def yX10_play : MethodName := ⟨RX10, "play", "(II)I"⟩
abbrev cX10_failed : ByteArray := prog_1_method_15_code
def yX10_failed : MethodName := ⟨RX10, "failed", "()I"⟩
abbrev cX10_mix : ByteArray := prog_1_method_16_code
def yX10_mix : MethodName := ⟨RX10, "mix", "(II)I"⟩
abbrev cX10_hush : ByteArray := prog_1_method_17_code
def yX10_hush : MethodName := ⟨RX10, "hush", "()I"⟩
abbrev cX10_at : ByteArray := prog_1_method_18_code
def yX10_at : MethodName := ⟨RX10, "at", "(II)I"⟩
abbrev cX10_clock : ByteArray := prog_1_method_19_code
def yX10_clock : MethodName := ⟨RX10, "clock", "(JI)I"⟩
abbrev cX10_told : ByteArray := prog_1_method_20_code
def yX10_told : MethodName := ⟨RX10, "told", "()J"⟩
abbrev cX10_tell : ByteArray := prog_1_method_21_code
def yX10_tell : MethodName := ⟨RX10, "tell", "(J)I"⟩
abbrev cX10_toldFailure : ByteArray := prog_1_method_22_code
def yX10_toldFailure : MethodName := ⟨RX10, "toldFailure", "(I)I"⟩
abbrev cX10_isBelow : ByteArray := prog_1_method_23_code
def yX10_isBelow : MethodName := ⟨RX10, "isBelow", "(II)Z"⟩
abbrev cX10_isNumberUpTo : ByteArray := prog_1_method_24_code
def yX10_isNumberUpTo : MethodName := ⟨RX10, "isNumberUpTo", "(JI)Z"⟩
abbrev cX10_rowsOf : ByteArray := prog_1_method_25_code
def yX10_rowsOf : MethodName := ⟨RX10, "rowsOf", "(Z)[LLoopMixer$Row;"⟩
abbrev cX10_itemFailure : ByteArray := prog_1_method_26_code
def yX10_itemFailure : MethodName := ⟨RX10, "itemFailure", "(LLoopMixer$Row;I)I"⟩
abbrev cX10_placeFailure : ByteArray := prog_1_method_27_code
def yX10_placeFailure : MethodName := ⟨RX10, "placeFailure", "(LLoopMixer$Rack;I)I"⟩
abbrev cX10_isOf : ByteArray := prog_1_method_28_code
def yX10_isOf : MethodName := ⟨RX10, "isOf", "(LLoopMixer$Effect;I)Z"⟩
abbrev cX10_newEffect : ByteArray := prog_1_method_29_code
def yX10_newEffect : MethodName := ⟨RX10, "newEffect", "(ID)LLoopMixer$Effect;"⟩
abbrev cX10_step : ByteArray := prog_1_method_30_code
def yX10_step : MethodName := ⟨RX10, "step", "(LLoopMixer$Head;)I"⟩
abbrev cX10_stepFailure : ByteArray := prog_1_method_31_code
def yX10_stepFailure : MethodName := ⟨RX10, "stepFailure", "(LLoopMixer$Head;LLoopMixer$Row;LLoopMixer$Row;LLoopMixer$Rack;)I"⟩
def RX11 : String := "LoopMixerModel"
def TX11 : u_T := fun k => match k with
  | 0 => ("LoopMixerModel", "rows", "I", false)
  | 1 => ("LoopMixerModel", "sizes", "[I", true)
  | 2 => ("LoopMixerModel", "items", "[D", true)
  | 3 => ("LoopMixerModel", "rowOf", "[I", true)
  | 4 => ("LoopMixerModel", "effects", "I", false)
  | 5 => ("LoopMixerModel", "kinds", "[I", true)
  | 6 => ("LoopMixerModel", "amounts", "[D", true)
  | 7 => ("LoopMixerModel", "effectOf", "[I", true)
  | 8 => ("LoopMixerModel", "rackOf", "[I", true)
  | 9 => ("LoopMixerModel", "hooks", "[I", true)
  | 10 => ("LoopMixerModel", "isSet", "[Z", true)
  | 11 => ("LoopMixerModel", "track", "[I", true)
  | 12 => ("LoopMixerModel", "curve", "[I", true)
  | 13 => ("LoopMixerModel", "rack", "[I", true)
  | 14 => ("LoopMixerModel", "rate", "[D", true)
  | 15 => ("LoopMixerModel", "place", "[D", true)
  | 16 => ("LoopMixerModel", "steps", "[J", true)
  | 17 => ("LoopMixerModel", "mix", "[D", true)
  | 18 => ("LoopMixerModel", "failure", "I", false)
  | 19 => ("LoopMixerModel", "clock", "J", false)
  | _ => ("LoopMixerModel", "told", "J", false)
def tyX11 : Nat → FieldType := fun k => match k with
  | 0 => .int
  | 1 => .array .int
  | 2 => .array .double
  | 3 => .array .int
  | 4 => .int
  | 5 => .array .int
  | 6 => .array .double
  | 7 => .array .int
  | 8 => .array .int
  | 9 => .array .int
  | 10 => .array .boolean
  | 11 => .array .int
  | 12 => .array .int
  | 13 => .array .int
  | 14 => .array .double
  | 15 => .array .double
  | 16 => .array .long
  | 17 => .array .double
  | 18 => .int
  | 19 => .long
  | _ => .long
abbrev wsX110 : List Cond := u_ws RX11 TX11 21
theorem nmX11 : ∀ a, a < 21 → ∀ b, b < 21 → a ≠ b → (TX11 a).2.1 ≠ (TX11 b).2.1 := by decide +kernel
theorem tyX11_ok : ∀ k, k < 21 → parseFieldDescriptor (TX11 k).2.2.1 = some (tyX11 k) := by decide +kernel
abbrev cX11_init : ByteArray := prog_13_method_1_code
def yX11_init : MethodName := ⟨RX11, "<init>", "()V"⟩
abbrev cX11_in : ByteArray := prog_13_method_2_code
def yX11_in : MethodName := ⟨RX11, "in", "(III)Z"⟩
abbrev cX11_fails : ByteArray := prog_13_method_3_code
def yX11_fails : MethodName := ⟨RX11, "fails", "(I)I"⟩
abbrev cX11_isFine : ByteArray := prog_13_method_4_code
def yX11_isFine : MethodName := ⟨RX11, "isFine", "(ZJ)Z"⟩
abbrev cX11_number : ByteArray := prog_13_method_5_code
def yX11_number : MethodName := ⟨RX11, "number", "(ZJ)D"⟩
abbrev cX11_bitsOf : ByteArray := prog_13_method_6_code
def yX11_bitsOf : MethodName := ⟨RX11, "bitsOf", "(ZD)J"⟩
abbrev cX11_held : ByteArray := prog_13_method_7_code
def yX11_held : MethodName := ⟨RX11, "held", "(D)D"⟩
abbrev cX11_slotOf : ByteArray := prog_13_method_8_code
def yX11_slotOf : MethodName := ⟨RX11, "slotOf", "(ZI)I"⟩
abbrev cX11_row : ByteArray := prog_13_method_9_code
def yX11_row : MethodName := ⟨RX11, "row", "(ZII)I"⟩
abbrev cX11_share : ByteArray := prog_13_method_10_code
def yX11_share : MethodName := ⟨RX11, "share", "(ZII)I"⟩
abbrev cX11_drop : ByteArray := prog_13_method_11_code
def yX11_drop : MethodName := ⟨RX11, "drop", "(ZI)I"⟩
abbrev cX11_asked : ByteArray := prog_13_method_12_code
def yX11_asked : MethodName := ⟨RX11, "asked", "(ZII)I"⟩
abbrev cX11_item : ByteArray := prog_13_method_13_code
def yX11_item : MethodName := ⟨RX11, "item", "(ZII)D"⟩
abbrev cX11_set : ByteArray := prog_13_method_14_code
def yX11_set : MethodName := ⟨RX11, "set", "(ZIIJ)I"⟩
abbrev cX11_get : ByteArray := prog_13_method_15_code
def yX11_get : MethodName := ⟨RX11, "get", "(ZII)I"⟩
abbrev cX11_wrap : ByteArray := prog_13_method_16_code
def yX11_wrap : MethodName := ⟨RX11, "wrap", "(ZIII)I"⟩
abbrev cX11_effect : ByteArray := prog_13_method_17_code
def yX11_effect : MethodName := ⟨RX11, "effect", "(IIJ)I"⟩
abbrev cX11_made : ByteArray := prog_13_method_18_code
def yX11_made : MethodName := ⟨RX11, "made", "(ID)D"⟩
abbrev cX11_make : ByteArray := prog_13_method_19_code
def yX11_make : MethodName := ⟨RX11, "make", "(IJ)I"⟩
abbrev cX11_fits : ByteArray := prog_13_method_20_code
def yX11_fits : MethodName := ⟨RX11, "fits", "(II)Z"⟩
abbrev cX11_rack : ByteArray := prog_13_method_21_code
def yX11_rack : MethodName := ⟨RX11, "rack", "(II)I"⟩
abbrev cX11_hang : ByteArray := prog_13_method_22_code
def yX11_hang : MethodName := ⟨RX11, "hang", "(III)I"⟩
abbrev cX11_take : ByteArray := prog_13_method_23_code
def yX11_take : MethodName := ⟨RX11, "take", "(IIII)I"⟩
abbrev cX11_head : ByteArray := prog_13_method_24_code
def yX11_head : MethodName := ⟨RX11, "head", "(IIIIJ)I"⟩
abbrev cX11_step : ByteArray := prog_13_method_25_code
def yX11_step : MethodName := ⟨RX11, "step", "(I)I"⟩
abbrev cX11_play : ByteArray := prog_13_method_26_code
def yX11_play : MethodName := ⟨RX11, "play", "(II)I"⟩
abbrev cX11_failed : ByteArray := prog_13_method_27_code
def yX11_failed : MethodName := ⟨RX11, "failed", "()I"⟩
abbrev cX11_mix : ByteArray := prog_13_method_28_code
def yX11_mix : MethodName := ⟨RX11, "mix", "(II)I"⟩
abbrev cX11_hush : ByteArray := prog_13_method_29_code
def yX11_hush : MethodName := ⟨RX11, "hush", "()I"⟩
abbrev cX11_at : ByteArray := prog_13_method_30_code
def yX11_at : MethodName := ⟨RX11, "at", "(II)I"⟩
abbrev cX11_clock : ByteArray := prog_13_method_31_code
def yX11_clock : MethodName := ⟨RX11, "clock", "(JI)I"⟩
abbrev cX11_told : ByteArray := prog_13_method_32_code
def yX11_told : MethodName := ⟨RX11, "told", "()J"⟩
def RJxe99ae : String := "java/lang/Double"
def TJxe99ae : u_T := fun k => match k with
  | _ => ("", "", "", false)
def tyJxe99ae : Nat → FieldType := fun k => match k with
  | _ => .int
abbrev wsJxe99ae0 : List Cond := u_ws RJxe99ae TJxe99ae 0
theorem nmJxe99ae : ∀ a, a < 0 → ∀ b, b < 0 → a ≠ b → (TJxe99ae a).2.1 ≠ (TJxe99ae b).2.1 := by decide +kernel
theorem tyJxe99ae_ok : ∀ k, k < 0 → parseFieldDescriptor (TJxe99ae k).2.2.1 = some (tyJxe99ae k) := by decide +kernel
abbrev cJxe99ae_isNaN_b9ae7 : ByteArray := prog_14_method_6_code
def yJxe99ae_isNaN_b9ae7 : MethodName := ⟨RJxe99ae, "isNaN", "(D)Z"⟩
abbrev cJxe99ae_doubleToLongBits_ccdee : ByteArray := prog_14_method_23_code
def yJxe99ae_doubleToLongBits_ccdee : MethodName := ⟨RJxe99ae, "doubleToLongBits", "(D)J"⟩
def RJxf58ca : String := "java/lang/Float"
def TJxf58ca : u_T := fun k => match k with
  | _ => ("", "", "", false)
def tyJxf58ca : Nat → FieldType := fun k => match k with
  | _ => .int
abbrev wsJxf58ca0 : List Cond := u_ws RJxf58ca TJxf58ca 0
theorem nmJxf58ca : ∀ a, a < 0 → ∀ b, b < 0 → a ≠ b → (TJxf58ca a).2.1 ≠ (TJxf58ca b).2.1 := by decide +kernel
theorem tyJxf58ca_ok : ∀ k, k < 0 → parseFieldDescriptor (TJxf58ca k).2.2.1 = some (tyJxf58ca k) := by decide +kernel
abbrev cJxf58ca_isNaN_12338 : ByteArray := prog_15_method_6_code
def yJxf58ca_isNaN_12338 : MethodName := ⟨RJxf58ca, "isNaN", "(F)Z"⟩
abbrev cJxf58ca_floatToIntBits_5c35a : ByteArray := prog_15_method_24_code
def yJxf58ca_floatToIntBits_5c35a : MethodName := ⟨RJxf58ca, "floatToIntBits", "(F)I"⟩
def RJ9 : String := "java/lang/Math"
def TJ9 : u_T := fun k => match k with
  | _ => ("", "", "", false)
def tyJ9 : Nat → FieldType := fun k => match k with
  | _ => .int
abbrev wsJ90 : List Cond := u_ws RJ9 TJ9 0
theorem nmJ9 : ∀ a, a < 0 → ∀ b, b < 0 → a ≠ b → (TJ9 a).2.1 ≠ (TJ9 b).2.1 := by decide +kernel
theorem tyJ9_ok : ∀ k, k < 0 → parseFieldDescriptor (TJ9 k).2.2.1 = some (tyJ9 k) := by decide +kernel
abbrev cJ9_max_7cf53 : ByteArray := prog_16_method_65_code
def yJ9_max_7cf53 : MethodName := ⟨RJ9, "max", "(II)I"⟩
def RL : String := "LoopMixerLaw"
abbrev cL_law : ByteArray := code
def yL_law : MethodName := ⟨RL, "law", "([I)Z"⟩
def wsX2_init : List Cond := .code yX2_init cX2_init 3 none :: ([.methodLink RX2 1 objectInit, .instanceMethod objectInit, .code objectInit ⟨#[0xb1]⟩ 1 none, .fieldLink RX2 7 "LoopMixer$Effect" "amount" "D"] ++ wsX00 ++ wsX40 ++ wsX50)
def wsX0_init : List Cond := .code yX0_init cX0_init 3 none :: ([.methodLink RX0 3 yX2_init, .instanceMethod yX2_init, .initialized RX2, .code yX2_init cX2_init 3 none, .methodLink RX2 1 objectInit, .instanceMethod objectInit, .code objectInit ⟨#[0xb1]⟩ 1 none, .fieldLink RX2 7 "LoopMixer$Effect" "amount" "D"] ++ wsX00 ++ wsX40 ++ wsX50)
def wsX0_hasKind : List Cond := .code yX0_hasKind cX0_hasKind 2 (some .boolean) :: ([])
def wsX0_madeFrom : List Cond := .code yX0_madeFrom cX0_madeFrom 5 (some .double) :: ([.fieldLink RX0 9 "LoopMixer$Crush" "amount" "D", .sameField "LoopMixer$Crush" "LoopMixer$Effect" "amount" "D", .methodLink RX0 15 Lib.Math.max.name, .static Lib.Math.max.name, .initialized "java/lang/Math", .code Lib.Math.max.name Lib.Math.max.code 2 (some .int)] ++ wsX00 ++ wsX40 ++ wsX50)
def wsX9_init : List Cond := .code yX9_init cX9_init 1 none :: ([.methodLink RX9 1 objectInit, .instanceMethod objectInit, .code objectInit ⟨#[0xb1]⟩ 1 none])
def wsX1_init : List Cond := .code yX1_init cX1_init 2 none :: ([.arrayClass .double, .fieldLink RX1 7 "LoopMixer$DoubleRow" "items" "[D", .instanceMethod yX9_init, .initialized RX9, .code yX9_init cX9_init 1 none, .methodLink RX9 1 objectInit, .instanceMethod objectInit, .code objectInit ⟨#[0xb1]⟩ 1 none] ++ wsX10)
def wsX1_size : List Cond := .code yX1_size cX1_size 1 (some .int) :: ([.fieldLink RX1 7 "LoopMixer$DoubleRow" "items" "[D"] ++ wsX10)
def wsX1_item : List Cond := .code yX1_item cX1_item 2 (some .double) :: ([.fieldLink RX1 7 "LoopMixer$DoubleRow" "items" "[D"] ++ wsX10)
def wsX1_put : List Cond := .code yX1_put cX1_put 4 none :: ([.fieldLink RX1 7 "LoopMixer$DoubleRow" "items" "[D"] ++ wsX10)
def wsX5_madeFrom : List Cond := .code yX5_madeFrom cX5_madeFrom 3 (some .double) :: ([.fieldLink RX5 9 "LoopMixer$Gain" "amount" "D", .sameField "LoopMixer$Gain" "LoopMixer$Effect" "amount" "D"] ++ wsX00 ++ wsX40 ++ wsX50)
def wsX7_sizeOf : List Cond := .code yX7_sizeOf cX7_sizeOf 2 (some .double) :: ([])
def wsX7_greatestPart : List Cond := .code yX7_greatestPart cX7_greatestPart 10 (some .double) :: ([])
def wsX7_rest : List Cond := .code yX7_rest cX7_rest 11 (some .double) :: ([.constantDouble RX7 27 (4611686018427387904), .methodLink RX7 23 yX7_sizeOf, .static yX7_sizeOf, .initialized RX7, .code yX7_sizeOf cX7_sizeOf 2 (some .double), .methodLink RX7 36 yX7_greatestPart, .static yX7_greatestPart, .code yX7_greatestPart cX7_greatestPart 10 (some .double)])
def wsX4_madeFrom : List Cond := .code yX4_madeFrom cX4_madeFrom 5 (some .double) :: ([.constantDouble RX4 17 (4611686018427387904), .constantDouble RX4 25 (13830554455654793216), .constantDouble RX4 27 (13835058055282163712), .methodLink RX4 13 yX5_madeFrom, .sameMethod "LoopMixer$Gain" "LoopMixer$Gain" "madeFrom" "(D)D", .superclass RX4 RX5, .instanceMethod yX5_madeFrom, .initialized RX5, .code yX5_madeFrom cX5_madeFrom 3 (some .double), .fieldLink RX5 9 "LoopMixer$Gain" "amount" "D", .sameField "LoopMixer$Gain" "LoopMixer$Effect" "amount" "D", .methodLink RX4 19 yX7_rest, .static yX7_rest, .initialized RX7, .code yX7_rest cX7_rest 11 (some .double), .constantDouble RX7 27 (4611686018427387904), .methodLink RX7 23 yX7_sizeOf, .static yX7_sizeOf, .code yX7_sizeOf cX7_sizeOf 2 (some .double), .methodLink RX7 36 yX7_greatestPart, .static yX7_greatestPart, .code yX7_greatestPart cX7_greatestPart 10 (some .double)] ++ wsX00 ++ wsX40 ++ wsX50)
def wsX7_held : List Cond := .code yX7_held cX7_held 3 (some .float) :: ([.constantFloat RX7 35 (2139095039)])
def wsX2_heldFrom_r1 : List Cond := [Cond.methodLink RX2 13 ⟨"LoopMixer$Effect", "madeFrom", "(D)D"⟩, Cond.sameMethod "LoopMixer$Effect" "LoopMixer$Effect" "madeFrom" "(D)D", Cond.selects RX0 ⟨"LoopMixer$Effect", "madeFrom", "(D)D"⟩ yX0_madeFrom, Cond.instanceMethod yX0_madeFrom, Cond.initialized RX0, Cond.code yX0_madeFrom cX0_madeFrom 5 (some .double), Cond.fieldLink RX0 9 "LoopMixer$Crush" "amount" "D", Cond.sameField "LoopMixer$Crush" "LoopMixer$Effect" "amount" "D", Cond.methodLink RX0 15 Lib.Math.max.name, Cond.static Lib.Math.max.name, Cond.initialized "java/lang/Math", Cond.code Lib.Math.max.name Lib.Math.max.code 2 (some .int), Cond.selects RX4 ⟨"LoopMixer$Effect", "madeFrom", "(D)D"⟩ yX4_madeFrom, Cond.instanceMethod yX4_madeFrom, Cond.initialized RX4, Cond.code yX4_madeFrom cX4_madeFrom 5 (some .double), Cond.constantDouble RX4 17 (4611686018427387904), Cond.constantDouble RX4 25 (13830554455654793216), Cond.constantDouble RX4 27 (13835058055282163712), Cond.methodLink RX4 13 yX5_madeFrom, Cond.sameMethod "LoopMixer$Gain" "LoopMixer$Gain" "madeFrom" "(D)D", Cond.superclass RX4 RX5, Cond.instanceMethod yX5_madeFrom, Cond.initialized RX5]
def wsX2_heldFrom_r2 : List Cond := [Cond.code yX5_madeFrom cX5_madeFrom 3 (some .double), Cond.fieldLink RX5 9 "LoopMixer$Gain" "amount" "D", Cond.sameField "LoopMixer$Gain" "LoopMixer$Effect" "amount" "D", Cond.methodLink RX4 19 yX7_rest, Cond.static yX7_rest, Cond.initialized RX7, Cond.code yX7_rest cX7_rest 11 (some .double), Cond.constantDouble RX7 27 (4611686018427387904), Cond.methodLink RX7 23 yX7_sizeOf, Cond.static yX7_sizeOf, Cond.code yX7_sizeOf cX7_sizeOf 2 (some .double), Cond.methodLink RX7 36 yX7_greatestPart, Cond.static yX7_greatestPart, Cond.code yX7_greatestPart cX7_greatestPart 10 (some .double), Cond.selects RX5 ⟨"LoopMixer$Effect", "madeFrom", "(D)D"⟩ yX5_madeFrom, Cond.methodLink RX2 17 yX7_held, Cond.static yX7_held, Cond.code yX7_held cX7_held 3 (some .float), Cond.constantFloat RX7 35 (2139095039)]
def wsX2_heldFrom : List Cond := .code yX2_heldFrom cX2_heldFrom 2 (some .float) :: ((wsX2_heldFrom_r1 ++ wsX2_heldFrom_r2) ++ wsX00 ++ wsX40 ++ wsX50)
def wsX3_init : List Cond := .code yX3_init cX3_init 2 none :: ([.arrayClass .float, .fieldLink RX3 7 "LoopMixer$FloatRow" "items" "[F", .instanceMethod yX9_init, .initialized RX9, .code yX9_init cX9_init 1 none, .methodLink RX9 1 objectInit, .instanceMethod objectInit, .code objectInit ⟨#[0xb1]⟩ 1 none] ++ wsX30)
def wsX3_size : List Cond := .code yX3_size cX3_size 1 (some .int) :: ([.fieldLink RX3 7 "LoopMixer$FloatRow" "items" "[F"] ++ wsX30)
def wsX3_item : List Cond := .code yX3_item cX3_item 2 (some .double) :: ([.fieldLink RX3 7 "LoopMixer$FloatRow" "items" "[F"] ++ wsX30)
def wsX3_put : List Cond := .code yX3_put cX3_put 4 none :: ([.fieldLink RX3 7 "LoopMixer$FloatRow" "items" "[F"] ++ wsX30)
def wsX5_init : List Cond := .code yX5_init cX5_init 3 none :: ([.methodLink RX5 3 yX2_init, .instanceMethod yX2_init, .initialized RX2, .code yX2_init cX2_init 3 none, .methodLink RX2 1 objectInit, .instanceMethod objectInit, .code objectInit ⟨#[0xb1]⟩ 1 none, .fieldLink RX2 7 "LoopMixer$Effect" "amount" "D"] ++ wsX00 ++ wsX40 ++ wsX50)
def wsX4_init : List Cond := .code yX4_init cX4_init 3 none :: ([.methodLink RX4 3 yX5_init, .instanceMethod yX5_init, .initialized RX5, .code yX5_init cX5_init 3 none, .methodLink RX5 3 yX2_init, .instanceMethod yX2_init, .initialized RX2, .code yX2_init cX2_init 3 none, .methodLink RX2 1 objectInit, .instanceMethod objectInit, .code objectInit ⟨#[0xb1]⟩ 1 none, .fieldLink RX2 7 "LoopMixer$Effect" "amount" "D"] ++ wsX00 ++ wsX40 ++ wsX50)
def wsX5_hasKind : List Cond := .code yX5_hasKind cX5_hasKind 2 (some .boolean) :: ([])
def wsX4_hasKind : List Cond := .code yX4_hasKind cX4_hasKind 2 (some .boolean) :: ([.methodLink RX4 9 yX5_hasKind, .sameMethod "LoopMixer$Gain" "LoopMixer$Gain" "hasKind" "(I)Z", .superclass RX4 RX5, .instanceMethod yX5_hasKind, .initialized RX5, .code yX5_hasKind cX5_hasKind 2 (some .boolean)])
def wsX6_init : List Cond := .code yX6_init cX6_init 6 none :: ([.methodLink RX6 1 objectInit, .instanceMethod objectInit, .code objectInit ⟨#[0xb1]⟩ 1 none, .fieldLink RX6 7 "LoopMixer$Head" "track" "I", .fieldLink RX6 13 "LoopMixer$Head" "curve" "I", .fieldLink RX6 16 "LoopMixer$Head" "rack" "I", .fieldLink RX6 19 "LoopMixer$Head" "rate" "D"] ++ wsX60)
def wsX6_moveOn : List Cond := .code yX6_moveOn cX6_moveOn 4 none :: ([.fieldLink RX6 23 "LoopMixer$Head" "place" "D", .fieldLink RX6 19 "LoopMixer$Head" "rate" "D", .fieldLink RX6 32 "LoopMixer$Head" "steps" "J", .methodLink RX6 26 yX7_rest, .static yX7_rest, .initialized RX7, .code yX7_rest cX7_rest 11 (some .double), .constantDouble RX7 27 (4611686018427387904), .methodLink RX7 23 yX7_sizeOf, .static yX7_sizeOf, .code yX7_sizeOf cX7_sizeOf 2 (some .double), .methodLink RX7 36 yX7_greatestPart, .static yX7_greatestPart, .code yX7_greatestPart cX7_greatestPart 10 (some .double)] ++ wsX60)
def wsX7_exponentField : List Cond := .code yX7_exponentField cX7_exponentField 3 (some .int) :: ([])
def wsX7_isNumber : List Cond := .code yX7_isNumber cX7_isNumber 3 (some .boolean) :: ([.methodLink RX7 7 yX7_exponentField, .static yX7_exponentField, .initialized RX7, .code yX7_exponentField cX7_exponentField 3 (some .int)])
def wsX7_timesPowerOfTwo : List Cond := .code yX7_timesPowerOfTwo cX7_timesPowerOfTwo 9 (some .double) :: ([])
def wsX7_fromBits : List Cond := .code yX7_fromBits cX7_fromBits 14 (some .double) :: ([.methodLink RX7 13 Lib.Math.max.name, .static Lib.Math.max.name, .initialized "java/lang/Math", .code Lib.Math.max.name Lib.Math.max.code 2 (some .int), .methodLink RX7 7 yX7_exponentField, .static yX7_exponentField, .initialized RX7, .code yX7_exponentField cX7_exponentField 3 (some .int), .methodLink RX7 19 yX7_timesPowerOfTwo, .static yX7_timesPowerOfTwo, .code yX7_timesPowerOfTwo cX7_timesPowerOfTwo 9 (some .double)])
def wsX7_isNegative : List Cond := .code yX7_isNegative cX7_isNegative 2 (some .boolean) :: ([])
def wsX7_toBits : List Cond := .code yX7_toBits cX7_toBits 13 (some .long) :: ([.constantDouble RX7 27 (4611686018427387904), .constantLong RX7 33 (-1), .methodLink RX7 23 yX7_sizeOf, .static yX7_sizeOf, .initialized RX7, .code yX7_sizeOf cX7_sizeOf 2 (some .double), .methodLink RX7 29 yX7_isNegative, .static yX7_isNegative, .code yX7_isNegative cX7_isNegative 2 (some .boolean)])
def wsX8_init : List Cond := .code yX8_init cX8_init 2 none :: ([.methodLink RX8 3 objectInit, .instanceMethod objectInit, .code objectInit ⟨#[0xb1]⟩ 1 none, .fieldLink RX8 9 "LoopMixer$Rack" "kind" "I", .classLink RX8 15 RX2, .fieldLink RX8 17 "LoopMixer$Rack" "places" "[LLoopMixer$Effect;"] ++ wsX80)
def wsX8_hasBarePlace : List Cond := .code yX8_hasBarePlace cX8_hasBarePlace 2 (some .boolean) :: ([.fieldLink RX8 17 "LoopMixer$Rack" "places" "[LLoopMixer$Effect;"] ++ wsX80)
def wsX8_heldFrom_r1 : List Cond := [Cond.fieldLink RX8 17 "LoopMixer$Rack" "places" "[LLoopMixer$Effect;", Cond.methodLink RX8 21 ⟨"LoopMixer$Effect", "heldFrom", "(F)F"⟩, Cond.sameMethod "LoopMixer$Effect" "LoopMixer$Effect" "heldFrom" "(F)F", Cond.selects RX0 ⟨"LoopMixer$Effect", "heldFrom", "(F)F"⟩ yX2_heldFrom, Cond.instanceMethod yX2_heldFrom, Cond.initialized RX2, Cond.code yX2_heldFrom cX2_heldFrom 2 (some .float), Cond.methodLink RX2 13 ⟨"LoopMixer$Effect", "madeFrom", "(D)D"⟩, Cond.sameMethod "LoopMixer$Effect" "LoopMixer$Effect" "madeFrom" "(D)D", Cond.selects RX0 ⟨"LoopMixer$Effect", "madeFrom", "(D)D"⟩ yX0_madeFrom, Cond.instanceMethod yX0_madeFrom, Cond.initialized RX0, Cond.code yX0_madeFrom cX0_madeFrom 5 (some .double), Cond.fieldLink RX0 9 "LoopMixer$Crush" "amount" "D", Cond.sameField "LoopMixer$Crush" "LoopMixer$Effect" "amount" "D", Cond.methodLink RX0 15 Lib.Math.max.name, Cond.static Lib.Math.max.name, Cond.initialized "java/lang/Math", Cond.code Lib.Math.max.name Lib.Math.max.code 2 (some .int), Cond.selects RX4 ⟨"LoopMixer$Effect", "madeFrom", "(D)D"⟩ yX4_madeFrom, Cond.instanceMethod yX4_madeFrom, Cond.initialized RX4, Cond.code yX4_madeFrom cX4_madeFrom 5 (some .double), Cond.constantDouble RX4 17 (4611686018427387904)]
def wsX8_heldFrom_r2 : List Cond := [Cond.constantDouble RX4 25 (13830554455654793216), Cond.constantDouble RX4 27 (13835058055282163712), Cond.methodLink RX4 13 yX5_madeFrom, Cond.sameMethod "LoopMixer$Gain" "LoopMixer$Gain" "madeFrom" "(D)D", Cond.superclass RX4 RX5, Cond.instanceMethod yX5_madeFrom, Cond.initialized RX5, Cond.code yX5_madeFrom cX5_madeFrom 3 (some .double), Cond.fieldLink RX5 9 "LoopMixer$Gain" "amount" "D", Cond.sameField "LoopMixer$Gain" "LoopMixer$Effect" "amount" "D", Cond.methodLink RX4 19 yX7_rest, Cond.static yX7_rest, Cond.initialized RX7, Cond.code yX7_rest cX7_rest 11 (some .double), Cond.constantDouble RX7 27 (4611686018427387904), Cond.methodLink RX7 23 yX7_sizeOf, Cond.static yX7_sizeOf, Cond.code yX7_sizeOf cX7_sizeOf 2 (some .double), Cond.methodLink RX7 36 yX7_greatestPart, Cond.static yX7_greatestPart, Cond.code yX7_greatestPart cX7_greatestPart 10 (some .double), Cond.selects RX5 ⟨"LoopMixer$Effect", "madeFrom", "(D)D"⟩ yX5_madeFrom, Cond.methodLink RX2 17 yX7_held, Cond.static yX7_held]
def wsX8_heldFrom_r3 : List Cond := [Cond.code yX7_held cX7_held 3 (some .float), Cond.constantFloat RX7 35 (2139095039), Cond.selects RX4 ⟨"LoopMixer$Effect", "heldFrom", "(F)F"⟩ yX2_heldFrom, Cond.selects RX5 ⟨"LoopMixer$Effect", "heldFrom", "(F)F"⟩ yX2_heldFrom]
def wsX8_heldFrom : List Cond := .code yX8_heldFrom cX8_heldFrom 5 (some .float) :: ((wsX8_heldFrom_r1 ++ (wsX8_heldFrom_r2 ++ wsX8_heldFrom_r3)) ++ wsX80 ++ wsX00 ++ wsX40 ++ wsX50)
def wsX10_init : List Cond := .code yX10_init cX10_init 1 none :: ([.methodLink RX10 1 objectInit, .instanceMethod objectInit, .code objectInit ⟨#[0xb1]⟩ 1 none, .classLink RX10 9 RX9, .fieldLink RX10 11 "LoopMixer" "tracks" "[LLoopMixer$Row;", .fieldLink RX10 15 "LoopMixer" "curves" "[LLoopMixer$Row;", .classLink RX10 18 RX2, .fieldLink RX10 20 "LoopMixer" "effects" "[LLoopMixer$Effect;", .classLink RX10 24 RX8, .fieldLink RX10 26 "LoopMixer" "racks" "[LLoopMixer$Rack;", .classLink RX10 30 RX6, .fieldLink RX10 32 "LoopMixer" "heads" "[LLoopMixer$Head;", .arrayClass .float, .fieldLink RX10 36 "LoopMixer" "sums" "[F"] ++ wsX100)
def wsX10_isBelow : List Cond := .code yX10_isBelow cX10_isBelow 2 (some .boolean) :: ([])
def wsX10_row_r1 : List Cond := [Cond.fieldLink RX10 15 "LoopMixer" "curves" "[LLoopMixer$Row;", Cond.classLink RX10 44 RX1, Cond.instantiable RX1 1, Cond.initialized RX1, Cond.fieldLink RX10 11 "LoopMixer" "tracks" "[LLoopMixer$Row;", Cond.classLink RX10 49 RX3, Cond.instantiable RX3 1, Cond.initialized RX3, Cond.methodLink RX10 40 yX10_isBelow, Cond.static yX10_isBelow, Cond.initialized RX10, Cond.code yX10_isBelow cX10_isBelow 2 (some .boolean), Cond.methodLink RX10 46 yX1_init, Cond.instanceMethod yX1_init, Cond.code yX1_init cX1_init 2 none, Cond.arrayClass .double, Cond.fieldLink RX1 7 "LoopMixer$DoubleRow" "items" "[D", Cond.instanceMethod yX9_init, Cond.initialized RX9, Cond.code yX9_init cX9_init 1 none, Cond.methodLink RX9 1 objectInit, Cond.instanceMethod objectInit, Cond.code objectInit ⟨#[0xb1]⟩ 1 none, Cond.methodLink RX10 51 yX3_init]
def wsX10_row_r2 : List Cond := [Cond.instanceMethod yX3_init, Cond.code yX3_init cX3_init 2 none, Cond.arrayClass .float, Cond.fieldLink RX3 7 "LoopMixer$FloatRow" "items" "[F"]
def wsX10_row : List Cond := .code yX10_row cX10_row 4 (some .int) :: ((wsX10_row_r1 ++ wsX10_row_r2) ++ wsX100 ++ wsX10 ++ wsX30)
def wsX10_rowsOf : List Cond := .code yX10_rowsOf cX10_rowsOf 2 (some (.array (.object "LoopMixer$Row"))) :: ([.fieldLink RX10 15 "LoopMixer" "curves" "[LLoopMixer$Row;", .fieldLink RX10 11 "LoopMixer" "tracks" "[LLoopMixer$Row;"] ++ wsX100)
def wsX10_share : List Cond := .code yX10_share cX10_share 5 (some .int) :: ([.methodLink RX10 40 yX10_isBelow, .static yX10_isBelow, .initialized RX10, .code yX10_isBelow cX10_isBelow 2 (some .boolean), .methodLink RX10 52 yX10_rowsOf, .instanceMethod yX10_rowsOf, .selects RX10 yX10_rowsOf yX10_rowsOf, .code yX10_rowsOf cX10_rowsOf 2 (some (.array (.object "LoopMixer$Row"))), .fieldLink RX10 15 "LoopMixer" "curves" "[LLoopMixer$Row;", .fieldLink RX10 11 "LoopMixer" "tracks" "[LLoopMixer$Row;"] ++ wsX100)
def wsX10_drop : List Cond := .code yX10_drop cX10_drop 5 (some .int) :: ([.methodLink RX10 40 yX10_isBelow, .static yX10_isBelow, .initialized RX10, .code yX10_isBelow cX10_isBelow 2 (some .boolean), .methodLink RX10 52 yX10_rowsOf, .instanceMethod yX10_rowsOf, .selects RX10 yX10_rowsOf yX10_rowsOf, .code yX10_rowsOf cX10_rowsOf 2 (some (.array (.object "LoopMixer$Row"))), .fieldLink RX10 15 "LoopMixer" "curves" "[LLoopMixer$Row;", .fieldLink RX10 11 "LoopMixer" "tracks" "[LLoopMixer$Row;"] ++ wsX100)
def wsX10_itemFailure : List Cond := .code yX10_itemFailure cX10_itemFailure 2 (some .int) :: ([.methodLink RX10 149 ⟨"LoopMixer$Row", "size", "()I"⟩, .sameMethod "LoopMixer$Row" "LoopMixer$Row" "size" "()I", .selects RX1 ⟨"LoopMixer$Row", "size", "()I"⟩ yX1_size, .instanceMethod yX1_size, .initialized RX1, .code yX1_size cX1_size 1 (some .int), .fieldLink RX1 7 "LoopMixer$DoubleRow" "items" "[D", .selects RX3 ⟨"LoopMixer$Row", "size", "()I"⟩ yX3_size, .instanceMethod yX3_size, .initialized RX3, .code yX3_size cX3_size 1 (some .int), .fieldLink RX3 7 "LoopMixer$FloatRow" "items" "[F", .methodLink RX10 40 yX10_isBelow, .static yX10_isBelow, .initialized RX10, .code yX10_isBelow cX10_isBelow 2 (some .boolean)] ++ wsX10 ++ wsX30)
def wsX10_toldFailure : List Cond := .code yX10_toldFailure cX10_toldFailure 1 (some .int) :: ([])
def wsX10_set_r1 : List Cond := [Cond.methodLink RX10 40 yX10_isBelow, Cond.static yX10_isBelow, Cond.initialized RX10, Cond.code yX10_isBelow cX10_isBelow 2 (some .boolean), Cond.methodLink RX10 56 yX7_isNumber, Cond.static yX7_isNumber, Cond.initialized RX7, Cond.code yX7_isNumber cX7_isNumber 3 (some .boolean), Cond.methodLink RX7 7 yX7_exponentField, Cond.static yX7_exponentField, Cond.code yX7_exponentField cX7_exponentField 3 (some .int), Cond.methodLink RX10 52 yX10_rowsOf, Cond.instanceMethod yX10_rowsOf, Cond.selects RX10 yX10_rowsOf yX10_rowsOf, Cond.code yX10_rowsOf cX10_rowsOf 2 (some (.array (.object "LoopMixer$Row"))), Cond.fieldLink RX10 15 "LoopMixer" "curves" "[LLoopMixer$Row;", Cond.fieldLink RX10 11 "LoopMixer" "tracks" "[LLoopMixer$Row;", Cond.methodLink RX10 62 yX10_itemFailure, Cond.static yX10_itemFailure, Cond.code yX10_itemFailure cX10_itemFailure 2 (some .int), Cond.methodLink RX10 149 ⟨"LoopMixer$Row", "size", "()I"⟩, Cond.sameMethod "LoopMixer$Row" "LoopMixer$Row" "size" "()I", Cond.selects RX1 ⟨"LoopMixer$Row", "size", "()I"⟩ yX1_size, Cond.instanceMethod yX1_size]
def wsX10_set_r2 : List Cond := [Cond.initialized RX1, Cond.code yX1_size cX1_size 1 (some .int), Cond.fieldLink RX1 7 "LoopMixer$DoubleRow" "items" "[D", Cond.selects RX3 ⟨"LoopMixer$Row", "size", "()I"⟩ yX3_size, Cond.instanceMethod yX3_size, Cond.initialized RX3, Cond.code yX3_size cX3_size 1 (some .int), Cond.fieldLink RX3 7 "LoopMixer$FloatRow" "items" "[F", Cond.methodLink RX10 66 yX10_toldFailure, Cond.static yX10_toldFailure, Cond.code yX10_toldFailure cX10_toldFailure 1 (some .int), Cond.methodLink RX10 70 yX7_fromBits, Cond.static yX7_fromBits, Cond.code yX7_fromBits cX7_fromBits 14 (some .double), Cond.methodLink RX7 13 Lib.Math.max.name, Cond.static Lib.Math.max.name, Cond.initialized "java/lang/Math", Cond.code Lib.Math.max.name Lib.Math.max.code 2 (some .int), Cond.methodLink RX7 19 yX7_timesPowerOfTwo, Cond.static yX7_timesPowerOfTwo, Cond.code yX7_timesPowerOfTwo cX7_timesPowerOfTwo 9 (some .double), Cond.methodLink RX10 74 ⟨"LoopMixer$Row", "put", "(ID)V"⟩, Cond.sameMethod "LoopMixer$Row" "LoopMixer$Row" "put" "(ID)V", Cond.selects RX1 ⟨"LoopMixer$Row", "put", "(ID)V"⟩ yX1_put]
def wsX10_set_r3 : List Cond := [Cond.instanceMethod yX1_put, Cond.code yX1_put cX1_put 4 none, Cond.selects RX3 ⟨"LoopMixer$Row", "put", "(ID)V"⟩ yX3_put, Cond.instanceMethod yX3_put, Cond.code yX3_put cX3_put 4 none]
def wsX10_set : List Cond := .code yX10_set cX10_set 8 (some .int) :: ((wsX10_set_r1 ++ (wsX10_set_r2 ++ wsX10_set_r3)) ++ wsX100 ++ wsX10 ++ wsX30)
def wsX10_tell : List Cond := .code yX10_tell cX10_tell 3 (some .int) :: ([.fieldLink RX10 146 "LoopMixer" "latest" "J"] ++ wsX100)
def wsX10_get_r1 : List Cond := [Cond.methodLink RX10 40 yX10_isBelow, Cond.static yX10_isBelow, Cond.initialized RX10, Cond.code yX10_isBelow cX10_isBelow 2 (some .boolean), Cond.methodLink RX10 52 yX10_rowsOf, Cond.instanceMethod yX10_rowsOf, Cond.selects RX10 yX10_rowsOf yX10_rowsOf, Cond.code yX10_rowsOf cX10_rowsOf 2 (some (.array (.object "LoopMixer$Row"))), Cond.fieldLink RX10 15 "LoopMixer" "curves" "[LLoopMixer$Row;", Cond.fieldLink RX10 11 "LoopMixer" "tracks" "[LLoopMixer$Row;", Cond.methodLink RX10 62 yX10_itemFailure, Cond.static yX10_itemFailure, Cond.code yX10_itemFailure cX10_itemFailure 2 (some .int), Cond.methodLink RX10 149 ⟨"LoopMixer$Row", "size", "()I"⟩, Cond.sameMethod "LoopMixer$Row" "LoopMixer$Row" "size" "()I", Cond.selects RX1 ⟨"LoopMixer$Row", "size", "()I"⟩ yX1_size, Cond.instanceMethod yX1_size, Cond.initialized RX1, Cond.code yX1_size cX1_size 1 (some .int), Cond.fieldLink RX1 7 "LoopMixer$DoubleRow" "items" "[D", Cond.selects RX3 ⟨"LoopMixer$Row", "size", "()I"⟩ yX3_size, Cond.instanceMethod yX3_size, Cond.initialized RX3, Cond.code yX3_size cX3_size 1 (some .int)]
def wsX10_get_r2 : List Cond := [Cond.fieldLink RX3 7 "LoopMixer$FloatRow" "items" "[F", Cond.methodLink RX10 66 yX10_toldFailure, Cond.static yX10_toldFailure, Cond.code yX10_toldFailure cX10_toldFailure 1 (some .int), Cond.methodLink RX10 78 ⟨"LoopMixer$Row", "item", "(I)D"⟩, Cond.sameMethod "LoopMixer$Row" "LoopMixer$Row" "item" "(I)D", Cond.selects RX1 ⟨"LoopMixer$Row", "item", "(I)D"⟩ yX1_item, Cond.instanceMethod yX1_item, Cond.code yX1_item cX1_item 2 (some .double), Cond.selects RX3 ⟨"LoopMixer$Row", "item", "(I)D"⟩ yX3_item, Cond.instanceMethod yX3_item, Cond.code yX3_item cX3_item 2 (some .double), Cond.methodLink RX10 82 yX7_toBits, Cond.static yX7_toBits, Cond.initialized RX7, Cond.code yX7_toBits cX7_toBits 13 (some .long), Cond.constantDouble RX7 27 (4611686018427387904), Cond.constantLong RX7 33 (-1), Cond.methodLink RX7 23 yX7_sizeOf, Cond.static yX7_sizeOf, Cond.code yX7_sizeOf cX7_sizeOf 2 (some .double), Cond.methodLink RX7 29 yX7_isNegative, Cond.static yX7_isNegative, Cond.code yX7_isNegative cX7_isNegative 2 (some .boolean)]
def wsX10_get_r3 : List Cond := [Cond.methodLink RX10 86 yX10_tell, Cond.instanceMethod yX10_tell, Cond.selects RX10 yX10_tell yX10_tell, Cond.code yX10_tell cX10_tell 3 (some .int), Cond.fieldLink RX10 146 "LoopMixer" "latest" "J"]
def wsX10_get : List Cond := .code yX10_get cX10_get 6 (some .int) :: ((wsX10_get_r1 ++ (wsX10_get_r2 ++ wsX10_get_r3)) ++ wsX100 ++ wsX10 ++ wsX30)
def wsX10_wrap_r1 : List Cond := [Cond.methodLink RX10 40 yX10_isBelow, Cond.static yX10_isBelow, Cond.initialized RX10, Cond.code yX10_isBelow cX10_isBelow 2 (some .boolean), Cond.methodLink RX10 52 yX10_rowsOf, Cond.instanceMethod yX10_rowsOf, Cond.selects RX10 yX10_rowsOf yX10_rowsOf, Cond.code yX10_rowsOf cX10_rowsOf 2 (some (.array (.object "LoopMixer$Row"))), Cond.fieldLink RX10 15 "LoopMixer" "curves" "[LLoopMixer$Row;", Cond.fieldLink RX10 11 "LoopMixer" "tracks" "[LLoopMixer$Row;", Cond.methodLink RX10 62 yX10_itemFailure, Cond.static yX10_itemFailure, Cond.code yX10_itemFailure cX10_itemFailure 2 (some .int), Cond.methodLink RX10 149 ⟨"LoopMixer$Row", "size", "()I"⟩, Cond.sameMethod "LoopMixer$Row" "LoopMixer$Row" "size" "()I", Cond.selects RX1 ⟨"LoopMixer$Row", "size", "()I"⟩ yX1_size, Cond.instanceMethod yX1_size, Cond.initialized RX1, Cond.code yX1_size cX1_size 1 (some .int), Cond.fieldLink RX1 7 "LoopMixer$DoubleRow" "items" "[D", Cond.selects RX3 ⟨"LoopMixer$Row", "size", "()I"⟩ yX3_size, Cond.instanceMethod yX3_size, Cond.initialized RX3, Cond.code yX3_size cX3_size 1 (some .int)]
def wsX10_wrap_r2 : List Cond := [Cond.fieldLink RX3 7 "LoopMixer$FloatRow" "items" "[F", Cond.methodLink RX10 66 yX10_toldFailure, Cond.static yX10_toldFailure, Cond.code yX10_toldFailure cX10_toldFailure 1 (some .int), Cond.methodLink RX10 78 ⟨"LoopMixer$Row", "item", "(I)D"⟩, Cond.sameMethod "LoopMixer$Row" "LoopMixer$Row" "item" "(I)D", Cond.selects RX1 ⟨"LoopMixer$Row", "item", "(I)D"⟩ yX1_item, Cond.instanceMethod yX1_item, Cond.code yX1_item cX1_item 2 (some .double), Cond.selects RX3 ⟨"LoopMixer$Row", "item", "(I)D"⟩ yX3_item, Cond.instanceMethod yX3_item, Cond.code yX3_item cX3_item 2 (some .double), Cond.methodLink RX10 90 yX7_rest, Cond.static yX7_rest, Cond.initialized RX7, Cond.code yX7_rest cX7_rest 11 (some .double), Cond.constantDouble RX7 27 (4611686018427387904), Cond.methodLink RX7 23 yX7_sizeOf, Cond.static yX7_sizeOf, Cond.code yX7_sizeOf cX7_sizeOf 2 (some .double), Cond.methodLink RX7 36 yX7_greatestPart, Cond.static yX7_greatestPart, Cond.code yX7_greatestPart cX7_greatestPart 10 (some .double), Cond.methodLink RX10 74 ⟨"LoopMixer$Row", "put", "(ID)V"⟩]
def wsX10_wrap_r3 : List Cond := [Cond.sameMethod "LoopMixer$Row" "LoopMixer$Row" "put" "(ID)V", Cond.selects RX1 ⟨"LoopMixer$Row", "put", "(ID)V"⟩ yX1_put, Cond.instanceMethod yX1_put, Cond.code yX1_put cX1_put 4 none, Cond.selects RX3 ⟨"LoopMixer$Row", "put", "(ID)V"⟩ yX3_put, Cond.instanceMethod yX3_put, Cond.code yX3_put cX3_put 4 none]
def wsX10_wrap : List Cond := .code yX10_wrap cX10_wrap 9 (some .int) :: ((wsX10_wrap_r1 ++ (wsX10_wrap_r2 ++ wsX10_wrap_r3)) ++ wsX100 ++ wsX10 ++ wsX30)
def wsX10_isNumberUpTo : List Cond := .code yX10_isNumberUpTo cX10_isNumberUpTo 5 (some .boolean) :: ([.methodLink RX10 56 yX7_isNumber, .static yX7_isNumber, .initialized RX7, .code yX7_isNumber cX7_isNumber 3 (some .boolean), .methodLink RX7 7 yX7_exponentField, .static yX7_exponentField, .code yX7_exponentField cX7_exponentField 3 (some .int), .methodLink RX10 70 yX7_fromBits, .static yX7_fromBits, .code yX7_fromBits cX7_fromBits 14 (some .double), .methodLink RX7 13 Lib.Math.max.name, .static Lib.Math.max.name, .initialized "java/lang/Math", .code Lib.Math.max.name Lib.Math.max.code 2 (some .int), .methodLink RX7 19 yX7_timesPowerOfTwo, .static yX7_timesPowerOfTwo, .code yX7_timesPowerOfTwo cX7_timesPowerOfTwo 9 (some .double)])
def wsX10_newEffect_r1 : List Cond := [Cond.classLink RX10 157 RX5, Cond.instantiable RX5 1, Cond.initialized RX5, Cond.classLink RX10 162 RX4, Cond.instantiable RX4 1, Cond.initialized RX4, Cond.classLink RX10 165 RX0, Cond.instantiable RX0 1, Cond.initialized RX0, Cond.methodLink RX10 159 yX5_init, Cond.instanceMethod yX5_init, Cond.code yX5_init cX5_init 3 none, Cond.methodLink RX5 3 yX2_init, Cond.instanceMethod yX2_init, Cond.initialized RX2, Cond.code yX2_init cX2_init 3 none, Cond.methodLink RX2 1 objectInit, Cond.instanceMethod objectInit, Cond.code objectInit ⟨#[0xb1]⟩ 1 none, Cond.fieldLink RX2 7 "LoopMixer$Effect" "amount" "D", Cond.methodLink RX10 164 yX4_init, Cond.instanceMethod yX4_init, Cond.code yX4_init cX4_init 3 none, Cond.methodLink RX4 3 yX5_init]
def wsX10_newEffect_r2 : List Cond := [Cond.methodLink RX10 167 yX0_init, Cond.instanceMethod yX0_init, Cond.code yX0_init cX0_init 3 none, Cond.methodLink RX0 3 yX2_init]
def wsX10_newEffect : List Cond := .code yX10_newEffect cX10_newEffect 3 (some (.object "LoopMixer$Effect")) :: ((wsX10_newEffect_r1 ++ wsX10_newEffect_r2) ++ wsX50 ++ wsX40 ++ wsX00)
def wsX10_effect_r1 : List Cond := [Cond.constant RX10 94 (1000000), Cond.fieldLink RX10 20 "LoopMixer" "effects" "[LLoopMixer$Effect;", Cond.methodLink RX10 40 yX10_isBelow, Cond.static yX10_isBelow, Cond.initialized RX10, Cond.code yX10_isBelow cX10_isBelow 2 (some .boolean), Cond.methodLink RX10 95 yX10_isNumberUpTo, Cond.static yX10_isNumberUpTo, Cond.code yX10_isNumberUpTo cX10_isNumberUpTo 5 (some .boolean), Cond.methodLink RX10 56 yX7_isNumber, Cond.static yX7_isNumber, Cond.initialized RX7, Cond.code yX7_isNumber cX7_isNumber 3 (some .boolean), Cond.methodLink RX7 7 yX7_exponentField, Cond.static yX7_exponentField, Cond.code yX7_exponentField cX7_exponentField 3 (some .int), Cond.methodLink RX10 70 yX7_fromBits, Cond.static yX7_fromBits, Cond.code yX7_fromBits cX7_fromBits 14 (some .double), Cond.methodLink RX7 13 Lib.Math.max.name, Cond.static Lib.Math.max.name, Cond.initialized "java/lang/Math", Cond.code Lib.Math.max.name Lib.Math.max.code 2 (some .int), Cond.methodLink RX7 19 yX7_timesPowerOfTwo]
def wsX10_effect_r2 : List Cond := [Cond.static yX7_timesPowerOfTwo, Cond.code yX7_timesPowerOfTwo cX7_timesPowerOfTwo 9 (some .double), Cond.methodLink RX10 99 yX10_newEffect, Cond.static yX10_newEffect, Cond.code yX10_newEffect cX10_newEffect 3 (some (.object "LoopMixer$Effect")), Cond.classLink RX10 157 RX5, Cond.instantiable RX5 1, Cond.initialized RX5, Cond.classLink RX10 162 RX4, Cond.instantiable RX4 1, Cond.initialized RX4, Cond.classLink RX10 165 RX0, Cond.instantiable RX0 1, Cond.initialized RX0, Cond.methodLink RX10 159 yX5_init, Cond.instanceMethod yX5_init, Cond.code yX5_init cX5_init 3 none, Cond.methodLink RX5 3 yX2_init, Cond.instanceMethod yX2_init, Cond.initialized RX2, Cond.code yX2_init cX2_init 3 none, Cond.methodLink RX2 1 objectInit, Cond.instanceMethod objectInit, Cond.code objectInit ⟨#[0xb1]⟩ 1 none]
def wsX10_effect_r3 : List Cond := [Cond.fieldLink RX2 7 "LoopMixer$Effect" "amount" "D", Cond.methodLink RX10 164 yX4_init, Cond.instanceMethod yX4_init, Cond.code yX4_init cX4_init 3 none, Cond.methodLink RX4 3 yX5_init, Cond.methodLink RX10 167 yX0_init, Cond.instanceMethod yX0_init, Cond.code yX0_init cX0_init 3 none, Cond.methodLink RX0 3 yX2_init]
def wsX10_effect : List Cond := .code yX10_effect cX10_effect 5 (some .int) :: ((wsX10_effect_r1 ++ (wsX10_effect_r2 ++ wsX10_effect_r3)) ++ wsX100 ++ wsX50 ++ wsX40 ++ wsX00)
def wsX10_make_r1 : List Cond := [Cond.fieldLink RX10 20 "LoopMixer" "effects" "[LLoopMixer$Effect;", Cond.methodLink RX10 40 yX10_isBelow, Cond.static yX10_isBelow, Cond.initialized RX10, Cond.code yX10_isBelow cX10_isBelow 2 (some .boolean), Cond.methodLink RX10 56 yX7_isNumber, Cond.static yX7_isNumber, Cond.initialized RX7, Cond.code yX7_isNumber cX7_isNumber 3 (some .boolean), Cond.methodLink RX7 7 yX7_exponentField, Cond.static yX7_exponentField, Cond.code yX7_exponentField cX7_exponentField 3 (some .int), Cond.methodLink RX10 66 yX10_toldFailure, Cond.static yX10_toldFailure, Cond.code yX10_toldFailure cX10_toldFailure 1 (some .int), Cond.methodLink RX10 70 yX7_fromBits, Cond.static yX7_fromBits, Cond.code yX7_fromBits cX7_fromBits 14 (some .double), Cond.methodLink RX7 13 Lib.Math.max.name, Cond.static Lib.Math.max.name, Cond.initialized "java/lang/Math", Cond.code Lib.Math.max.name Lib.Math.max.code 2 (some .int), Cond.methodLink RX7 19 yX7_timesPowerOfTwo, Cond.static yX7_timesPowerOfTwo]
def wsX10_make_r2 : List Cond := [Cond.code yX7_timesPowerOfTwo cX7_timesPowerOfTwo 9 (some .double), Cond.methodLink RX10 103 ⟨"LoopMixer$Effect", "heldFrom", "(F)F"⟩, Cond.sameMethod "LoopMixer$Effect" "LoopMixer$Effect" "heldFrom" "(F)F", Cond.selects RX0 ⟨"LoopMixer$Effect", "heldFrom", "(F)F"⟩ yX2_heldFrom, Cond.instanceMethod yX2_heldFrom, Cond.initialized RX2, Cond.code yX2_heldFrom cX2_heldFrom 2 (some .float), Cond.methodLink RX2 13 ⟨"LoopMixer$Effect", "madeFrom", "(D)D"⟩, Cond.sameMethod "LoopMixer$Effect" "LoopMixer$Effect" "madeFrom" "(D)D", Cond.selects RX0 ⟨"LoopMixer$Effect", "madeFrom", "(D)D"⟩ yX0_madeFrom, Cond.instanceMethod yX0_madeFrom, Cond.initialized RX0, Cond.code yX0_madeFrom cX0_madeFrom 5 (some .double), Cond.fieldLink RX0 9 "LoopMixer$Crush" "amount" "D", Cond.sameField "LoopMixer$Crush" "LoopMixer$Effect" "amount" "D", Cond.methodLink RX0 15 Lib.Math.max.name, Cond.selects RX4 ⟨"LoopMixer$Effect", "madeFrom", "(D)D"⟩ yX4_madeFrom, Cond.instanceMethod yX4_madeFrom, Cond.initialized RX4, Cond.code yX4_madeFrom cX4_madeFrom 5 (some .double), Cond.constantDouble RX4 17 (4611686018427387904), Cond.constantDouble RX4 25 (13830554455654793216), Cond.constantDouble RX4 27 (13835058055282163712), Cond.methodLink RX4 13 yX5_madeFrom]
def wsX10_make_r3 : List Cond := [Cond.sameMethod "LoopMixer$Gain" "LoopMixer$Gain" "madeFrom" "(D)D", Cond.superclass RX4 RX5, Cond.instanceMethod yX5_madeFrom, Cond.initialized RX5, Cond.code yX5_madeFrom cX5_madeFrom 3 (some .double), Cond.fieldLink RX5 9 "LoopMixer$Gain" "amount" "D", Cond.sameField "LoopMixer$Gain" "LoopMixer$Effect" "amount" "D", Cond.methodLink RX4 19 yX7_rest, Cond.static yX7_rest, Cond.code yX7_rest cX7_rest 11 (some .double), Cond.constantDouble RX7 27 (4611686018427387904), Cond.methodLink RX7 23 yX7_sizeOf, Cond.static yX7_sizeOf, Cond.code yX7_sizeOf cX7_sizeOf 2 (some .double), Cond.methodLink RX7 36 yX7_greatestPart, Cond.static yX7_greatestPart, Cond.code yX7_greatestPart cX7_greatestPart 10 (some .double), Cond.selects RX5 ⟨"LoopMixer$Effect", "madeFrom", "(D)D"⟩ yX5_madeFrom, Cond.methodLink RX2 17 yX7_held, Cond.static yX7_held, Cond.code yX7_held cX7_held 3 (some .float), Cond.constantFloat RX7 35 (2139095039), Cond.selects RX4 ⟨"LoopMixer$Effect", "heldFrom", "(F)F"⟩ yX2_heldFrom, Cond.selects RX5 ⟨"LoopMixer$Effect", "heldFrom", "(F)F"⟩ yX2_heldFrom]
def wsX10_make_r4 : List Cond := [Cond.methodLink RX10 82 yX7_toBits, Cond.static yX7_toBits, Cond.code yX7_toBits cX7_toBits 13 (some .long), Cond.constantLong RX7 33 (-1), Cond.methodLink RX7 29 yX7_isNegative, Cond.static yX7_isNegative, Cond.code yX7_isNegative cX7_isNegative 2 (some .boolean), Cond.methodLink RX10 86 yX10_tell, Cond.instanceMethod yX10_tell, Cond.selects RX10 yX10_tell yX10_tell, Cond.code yX10_tell cX10_tell 3 (some .int), Cond.fieldLink RX10 146 "LoopMixer" "latest" "J"]
def wsX10_make : List Cond := .code yX10_make cX10_make 6 (some .int) :: ((wsX10_make_r1 ++ (wsX10_make_r2 ++ (wsX10_make_r3 ++ wsX10_make_r4))) ++ wsX100 ++ wsX00 ++ wsX40 ++ wsX50)
def wsX10_rack : List Cond := .code yX10_rack cX10_rack 3 (some .int) :: ([.fieldLink RX10 26 "LoopMixer" "racks" "[LLoopMixer$Rack;", .classLink RX10 24 RX8, .instantiable RX8 2, .initialized RX8, .methodLink RX10 40 yX10_isBelow, .static yX10_isBelow, .initialized RX10, .code yX10_isBelow cX10_isBelow 2 (some .boolean), .methodLink RX10 107 yX8_init, .instanceMethod yX8_init, .code yX8_init cX8_init 2 none, .methodLink RX8 3 objectInit, .instanceMethod objectInit, .code objectInit ⟨#[0xb1]⟩ 1 none, .fieldLink RX8 9 "LoopMixer$Rack" "kind" "I", .classLink RX8 15 RX2, .fieldLink RX8 17 "LoopMixer$Rack" "places" "[LLoopMixer$Effect;"] ++ wsX100 ++ wsX80)
def wsX10_placeFailure : List Cond := .code yX10_placeFailure cX10_placeFailure 2 (some .int) :: ([.methodLink RX10 40 yX10_isBelow, .static yX10_isBelow, .initialized RX10, .code yX10_isBelow cX10_isBelow 2 (some .boolean)])
def wsX10_isOf : List Cond := .code yX10_isOf cX10_isOf 2 (some .boolean) :: ([.methodLink RX10 153 ⟨"LoopMixer$Effect", "hasKind", "(I)Z"⟩, .sameMethod "LoopMixer$Effect" "LoopMixer$Effect" "hasKind" "(I)Z", .selects RX0 ⟨"LoopMixer$Effect", "hasKind", "(I)Z"⟩ yX0_hasKind, .instanceMethod yX0_hasKind, .initialized RX0, .code yX0_hasKind cX0_hasKind 2 (some .boolean), .selects RX4 ⟨"LoopMixer$Effect", "hasKind", "(I)Z"⟩ yX4_hasKind, .instanceMethod yX4_hasKind, .initialized RX4, .code yX4_hasKind cX4_hasKind 2 (some .boolean), .methodLink RX4 9 yX5_hasKind, .sameMethod "LoopMixer$Gain" "LoopMixer$Gain" "hasKind" "(I)Z", .superclass RX4 RX5, .instanceMethod yX5_hasKind, .initialized RX5, .code yX5_hasKind cX5_hasKind 2 (some .boolean), .selects RX5 ⟨"LoopMixer$Effect", "hasKind", "(I)Z"⟩ yX5_hasKind])
def wsX10_hang_r1 : List Cond := [Cond.fieldLink RX10 26 "LoopMixer" "racks" "[LLoopMixer$Rack;", Cond.fieldLink RX10 20 "LoopMixer" "effects" "[LLoopMixer$Effect;", Cond.methodLink RX10 40 yX10_isBelow, Cond.static yX10_isBelow, Cond.initialized RX10, Cond.code yX10_isBelow cX10_isBelow 2 (some .boolean), Cond.methodLink RX10 108 yX10_placeFailure, Cond.static yX10_placeFailure, Cond.code yX10_placeFailure cX10_placeFailure 2 (some .int), Cond.methodLink RX10 66 yX10_toldFailure, Cond.static yX10_toldFailure, Cond.code yX10_toldFailure cX10_toldFailure 1 (some .int), Cond.methodLink RX10 116 yX10_isOf, Cond.static yX10_isOf, Cond.code yX10_isOf cX10_isOf 2 (some .boolean), Cond.methodLink RX10 153 ⟨"LoopMixer$Effect", "hasKind", "(I)Z"⟩, Cond.sameMethod "LoopMixer$Effect" "LoopMixer$Effect" "hasKind" "(I)Z", Cond.selects RX0 ⟨"LoopMixer$Effect", "hasKind", "(I)Z"⟩ yX0_hasKind, Cond.instanceMethod yX0_hasKind, Cond.initialized RX0, Cond.code yX0_hasKind cX0_hasKind 2 (some .boolean), Cond.selects RX4 ⟨"LoopMixer$Effect", "hasKind", "(I)Z"⟩ yX4_hasKind, Cond.instanceMethod yX4_hasKind, Cond.initialized RX4]
def wsX10_hang_r2 : List Cond := [Cond.code yX4_hasKind cX4_hasKind 2 (some .boolean), Cond.methodLink RX4 9 yX5_hasKind, Cond.sameMethod "LoopMixer$Gain" "LoopMixer$Gain" "hasKind" "(I)Z", Cond.superclass RX4 RX5, Cond.instanceMethod yX5_hasKind, Cond.initialized RX5, Cond.code yX5_hasKind cX5_hasKind 2 (some .boolean), Cond.selects RX5 ⟨"LoopMixer$Effect", "hasKind", "(I)Z"⟩ yX5_hasKind]
def wsX10_hang : List Cond := .code yX10_hang cX10_hang 6 (some .int) :: ((wsX10_hang_r1 ++ wsX10_hang_r2) ++ wsX100 ++ wsX80)
def wsX10_take_r1 : List Cond := [Cond.fieldLink RX10 26 "LoopMixer" "racks" "[LLoopMixer$Rack;", Cond.fieldLink RX10 20 "LoopMixer" "effects" "[LLoopMixer$Effect;", Cond.methodLink RX10 40 yX10_isBelow, Cond.static yX10_isBelow, Cond.initialized RX10, Cond.code yX10_isBelow cX10_isBelow 2 (some .boolean), Cond.methodLink RX10 108 yX10_placeFailure, Cond.static yX10_placeFailure, Cond.code yX10_placeFailure cX10_placeFailure 2 (some .int), Cond.methodLink RX10 66 yX10_toldFailure, Cond.static yX10_toldFailure, Cond.code yX10_toldFailure cX10_toldFailure 1 (some .int), Cond.methodLink RX10 116 yX10_isOf, Cond.static yX10_isOf, Cond.code yX10_isOf cX10_isOf 2 (some .boolean), Cond.methodLink RX10 153 ⟨"LoopMixer$Effect", "hasKind", "(I)Z"⟩, Cond.sameMethod "LoopMixer$Effect" "LoopMixer$Effect" "hasKind" "(I)Z", Cond.selects RX0 ⟨"LoopMixer$Effect", "hasKind", "(I)Z"⟩ yX0_hasKind, Cond.instanceMethod yX0_hasKind, Cond.initialized RX0, Cond.code yX0_hasKind cX0_hasKind 2 (some .boolean), Cond.selects RX4 ⟨"LoopMixer$Effect", "hasKind", "(I)Z"⟩ yX4_hasKind, Cond.instanceMethod yX4_hasKind, Cond.initialized RX4]
def wsX10_take_r2 : List Cond := [Cond.code yX4_hasKind cX4_hasKind 2 (some .boolean), Cond.methodLink RX4 9 yX5_hasKind, Cond.sameMethod "LoopMixer$Gain" "LoopMixer$Gain" "hasKind" "(I)Z", Cond.superclass RX4 RX5, Cond.instanceMethod yX5_hasKind, Cond.initialized RX5, Cond.code yX5_hasKind cX5_hasKind 2 (some .boolean), Cond.selects RX5 ⟨"LoopMixer$Effect", "hasKind", "(I)Z"⟩ yX5_hasKind]
def wsX10_take : List Cond := .code yX10_take cX10_take 8 (some .int) :: ((wsX10_take_r1 ++ wsX10_take_r2) ++ wsX100 ++ wsX80)
def wsX10_head_r1 : List Cond := [Cond.fieldLink RX10 32 "LoopMixer" "heads" "[LLoopMixer$Head;", Cond.classLink RX10 30 RX6, Cond.instantiable RX6 6, Cond.initialized RX6, Cond.methodLink RX10 40 yX10_isBelow, Cond.static yX10_isBelow, Cond.initialized RX10, Cond.code yX10_isBelow cX10_isBelow 2 (some .boolean), Cond.methodLink RX10 95 yX10_isNumberUpTo, Cond.static yX10_isNumberUpTo, Cond.code yX10_isNumberUpTo cX10_isNumberUpTo 5 (some .boolean), Cond.methodLink RX10 56 yX7_isNumber, Cond.static yX7_isNumber, Cond.initialized RX7, Cond.code yX7_isNumber cX7_isNumber 3 (some .boolean), Cond.methodLink RX7 7 yX7_exponentField, Cond.static yX7_exponentField, Cond.code yX7_exponentField cX7_exponentField 3 (some .int), Cond.methodLink RX10 70 yX7_fromBits, Cond.static yX7_fromBits, Cond.code yX7_fromBits cX7_fromBits 14 (some .double), Cond.methodLink RX7 13 Lib.Math.max.name, Cond.static Lib.Math.max.name, Cond.initialized "java/lang/Math"]
def wsX10_head_r2 : List Cond := [Cond.code Lib.Math.max.name Lib.Math.max.code 2 (some .int), Cond.methodLink RX7 19 yX7_timesPowerOfTwo, Cond.static yX7_timesPowerOfTwo, Cond.code yX7_timesPowerOfTwo cX7_timesPowerOfTwo 9 (some .double), Cond.methodLink RX10 123 yX6_init, Cond.instanceMethod yX6_init, Cond.code yX6_init cX6_init 6 none, Cond.methodLink RX6 1 objectInit, Cond.instanceMethod objectInit, Cond.code objectInit ⟨#[0xb1]⟩ 1 none, Cond.fieldLink RX6 7 "LoopMixer$Head" "track" "I", Cond.fieldLink RX6 13 "LoopMixer$Head" "curve" "I", Cond.fieldLink RX6 16 "LoopMixer$Head" "rack" "I", Cond.fieldLink RX6 19 "LoopMixer$Head" "rate" "D"]
def wsX10_head : List Cond := .code yX10_head cX10_head 7 (some .int) :: ((wsX10_head_r1 ++ wsX10_head_r2) ++ wsX100 ++ wsX60)
def wsX10_stepFailure_r1 : List Cond := [Cond.methodLink RX10 62 yX10_itemFailure, Cond.static yX10_itemFailure, Cond.initialized RX10, Cond.code yX10_itemFailure cX10_itemFailure 2 (some .int), Cond.methodLink RX10 149 ⟨"LoopMixer$Row", "size", "()I"⟩, Cond.sameMethod "LoopMixer$Row" "LoopMixer$Row" "size" "()I", Cond.selects RX1 ⟨"LoopMixer$Row", "size", "()I"⟩ yX1_size, Cond.instanceMethod yX1_size, Cond.initialized RX1, Cond.code yX1_size cX1_size 1 (some .int), Cond.fieldLink RX1 7 "LoopMixer$DoubleRow" "items" "[D", Cond.selects RX3 ⟨"LoopMixer$Row", "size", "()I"⟩ yX3_size, Cond.instanceMethod yX3_size, Cond.initialized RX3, Cond.code yX3_size cX3_size 1 (some .int), Cond.fieldLink RX3 7 "LoopMixer$FloatRow" "items" "[F", Cond.methodLink RX10 40 yX10_isBelow, Cond.static yX10_isBelow, Cond.code yX10_isBelow cX10_isBelow 2 (some .boolean), Cond.methodLink RX10 191 yX8_hasBarePlace, Cond.instanceMethod yX8_hasBarePlace, Cond.selects RX8 yX8_hasBarePlace yX8_hasBarePlace, Cond.initialized RX8, Cond.code yX8_hasBarePlace cX8_hasBarePlace 2 (some .boolean)]
def wsX10_stepFailure_r2 : List Cond := [Cond.fieldLink RX8 17 "LoopMixer$Rack" "places" "[LLoopMixer$Effect;"]
def wsX10_stepFailure : List Cond := .code yX10_stepFailure cX10_stepFailure 5 (some .int) :: ((wsX10_stepFailure_r1 ++ wsX10_stepFailure_r2) ++ wsX60 ++ wsX10 ++ wsX30 ++ wsX80)
def wsX10_step_r1 : List Cond := [Cond.fieldLink RX10 11 "LoopMixer" "tracks" "[LLoopMixer$Row;", Cond.fieldLink RX10 15 "LoopMixer" "curves" "[LLoopMixer$Row;", Cond.fieldLink RX10 26 "LoopMixer" "racks" "[LLoopMixer$Rack;", Cond.constantLong RX10 186 (8), Cond.fieldLink RX10 36 "LoopMixer" "sums" "[F", Cond.methodLink RX10 177 yX10_stepFailure, Cond.static yX10_stepFailure, Cond.initialized RX10, Cond.code yX10_stepFailure cX10_stepFailure 5 (some .int), Cond.methodLink RX10 62 yX10_itemFailure, Cond.static yX10_itemFailure, Cond.code yX10_itemFailure cX10_itemFailure 2 (some .int), Cond.methodLink RX10 149 ⟨"LoopMixer$Row", "size", "()I"⟩, Cond.sameMethod "LoopMixer$Row" "LoopMixer$Row" "size" "()I", Cond.selects RX1 ⟨"LoopMixer$Row", "size", "()I"⟩ yX1_size, Cond.instanceMethod yX1_size, Cond.initialized RX1, Cond.code yX1_size cX1_size 1 (some .int), Cond.fieldLink RX1 7 "LoopMixer$DoubleRow" "items" "[D", Cond.selects RX3 ⟨"LoopMixer$Row", "size", "()I"⟩ yX3_size, Cond.instanceMethod yX3_size, Cond.initialized RX3, Cond.code yX3_size cX3_size 1 (some .int), Cond.fieldLink RX3 7 "LoopMixer$FloatRow" "items" "[F"]
def wsX10_step_r2 : List Cond := [Cond.methodLink RX10 40 yX10_isBelow, Cond.static yX10_isBelow, Cond.code yX10_isBelow cX10_isBelow 2 (some .boolean), Cond.methodLink RX10 191 yX8_hasBarePlace, Cond.instanceMethod yX8_hasBarePlace, Cond.selects RX8 yX8_hasBarePlace yX8_hasBarePlace, Cond.initialized RX8, Cond.code yX8_hasBarePlace cX8_hasBarePlace 2 (some .boolean), Cond.fieldLink RX8 17 "LoopMixer$Rack" "places" "[LLoopMixer$Effect;", Cond.methodLink RX10 78 ⟨"LoopMixer$Row", "item", "(I)D"⟩, Cond.sameMethod "LoopMixer$Row" "LoopMixer$Row" "item" "(I)D", Cond.selects RX1 ⟨"LoopMixer$Row", "item", "(I)D"⟩ yX1_item, Cond.instanceMethod yX1_item, Cond.code yX1_item cX1_item 2 (some .double), Cond.selects RX3 ⟨"LoopMixer$Row", "item", "(I)D"⟩ yX3_item, Cond.instanceMethod yX3_item, Cond.code yX3_item cX3_item 2 (some .double), Cond.methodLink RX10 181 yX7_held, Cond.static yX7_held, Cond.initialized RX7, Cond.code yX7_held cX7_held 3 (some .float), Cond.constantFloat RX7 35 (2139095039), Cond.methodLink RX10 185 yX8_heldFrom, Cond.instanceMethod yX8_heldFrom]
def wsX10_step_r3 : List Cond := [Cond.selects RX8 yX8_heldFrom yX8_heldFrom, Cond.code yX8_heldFrom cX8_heldFrom 5 (some .float), Cond.methodLink RX8 21 ⟨"LoopMixer$Effect", "heldFrom", "(F)F"⟩, Cond.sameMethod "LoopMixer$Effect" "LoopMixer$Effect" "heldFrom" "(F)F", Cond.selects RX0 ⟨"LoopMixer$Effect", "heldFrom", "(F)F"⟩ yX2_heldFrom, Cond.instanceMethod yX2_heldFrom, Cond.initialized RX2, Cond.code yX2_heldFrom cX2_heldFrom 2 (some .float), Cond.methodLink RX2 13 ⟨"LoopMixer$Effect", "madeFrom", "(D)D"⟩, Cond.sameMethod "LoopMixer$Effect" "LoopMixer$Effect" "madeFrom" "(D)D", Cond.selects RX0 ⟨"LoopMixer$Effect", "madeFrom", "(D)D"⟩ yX0_madeFrom, Cond.instanceMethod yX0_madeFrom, Cond.initialized RX0, Cond.code yX0_madeFrom cX0_madeFrom 5 (some .double), Cond.fieldLink RX0 9 "LoopMixer$Crush" "amount" "D", Cond.sameField "LoopMixer$Crush" "LoopMixer$Effect" "amount" "D", Cond.methodLink RX0 15 Lib.Math.max.name, Cond.static Lib.Math.max.name, Cond.initialized "java/lang/Math", Cond.code Lib.Math.max.name Lib.Math.max.code 2 (some .int), Cond.selects RX4 ⟨"LoopMixer$Effect", "madeFrom", "(D)D"⟩ yX4_madeFrom, Cond.instanceMethod yX4_madeFrom, Cond.initialized RX4, Cond.code yX4_madeFrom cX4_madeFrom 5 (some .double)]
def wsX10_step_r4 : List Cond := [Cond.constantDouble RX4 17 (4611686018427387904), Cond.constantDouble RX4 25 (13830554455654793216), Cond.constantDouble RX4 27 (13835058055282163712), Cond.methodLink RX4 13 yX5_madeFrom, Cond.sameMethod "LoopMixer$Gain" "LoopMixer$Gain" "madeFrom" "(D)D", Cond.superclass RX4 RX5, Cond.instanceMethod yX5_madeFrom, Cond.initialized RX5, Cond.code yX5_madeFrom cX5_madeFrom 3 (some .double), Cond.fieldLink RX5 9 "LoopMixer$Gain" "amount" "D", Cond.sameField "LoopMixer$Gain" "LoopMixer$Effect" "amount" "D", Cond.methodLink RX4 19 yX7_rest, Cond.static yX7_rest, Cond.code yX7_rest cX7_rest 11 (some .double), Cond.constantDouble RX7 27 (4611686018427387904), Cond.methodLink RX7 23 yX7_sizeOf, Cond.static yX7_sizeOf, Cond.code yX7_sizeOf cX7_sizeOf 2 (some .double), Cond.methodLink RX7 36 yX7_greatestPart, Cond.static yX7_greatestPart, Cond.code yX7_greatestPart cX7_greatestPart 10 (some .double), Cond.selects RX5 ⟨"LoopMixer$Effect", "madeFrom", "(D)D"⟩ yX5_madeFrom, Cond.methodLink RX2 17 yX7_held, Cond.selects RX4 ⟨"LoopMixer$Effect", "heldFrom", "(F)F"⟩ yX2_heldFrom]
def wsX10_step_r5 : List Cond := [Cond.selects RX5 ⟨"LoopMixer$Effect", "heldFrom", "(F)F"⟩ yX2_heldFrom, Cond.methodLink RX10 188 yX6_moveOn, Cond.instanceMethod yX6_moveOn, Cond.selects RX6 yX6_moveOn yX6_moveOn, Cond.initialized RX6, Cond.code yX6_moveOn cX6_moveOn 4 none, Cond.fieldLink RX6 23 "LoopMixer$Head" "place" "D", Cond.fieldLink RX6 19 "LoopMixer$Head" "rate" "D", Cond.fieldLink RX6 32 "LoopMixer$Head" "steps" "J", Cond.methodLink RX6 26 yX7_rest]
def wsX10_step : List Cond := .code yX10_step cX10_step 8 (some .int) :: ((wsX10_step_r1 ++ (wsX10_step_r2 ++ (wsX10_step_r3 ++ (wsX10_step_r4 ++ wsX10_step_r5)))) ++ wsX100 ++ wsX60 ++ wsX10 ++ wsX30 ++ wsX80 ++ wsX00 ++ wsX40 ++ wsX50)
def wsX10_play_r1 : List Cond := [Cond.fieldLink RX10 32 "LoopMixer" "heads" "[LLoopMixer$Head;", Cond.fieldLink RX10 126 "LoopMixer" "ending" "I", Cond.methodLink RX10 40 yX10_isBelow, Cond.static yX10_isBelow, Cond.initialized RX10, Cond.code yX10_isBelow cX10_isBelow 2 (some .boolean), Cond.methodLink RX10 129 yX10_step, Cond.instanceMethod yX10_step, Cond.selects RX10 yX10_step yX10_step, Cond.code yX10_step cX10_step 8 (some .int), Cond.fieldLink RX10 11 "LoopMixer" "tracks" "[LLoopMixer$Row;", Cond.fieldLink RX10 15 "LoopMixer" "curves" "[LLoopMixer$Row;", Cond.fieldLink RX10 26 "LoopMixer" "racks" "[LLoopMixer$Rack;", Cond.constantLong RX10 186 (8), Cond.fieldLink RX10 36 "LoopMixer" "sums" "[F", Cond.methodLink RX10 177 yX10_stepFailure, Cond.static yX10_stepFailure, Cond.code yX10_stepFailure cX10_stepFailure 5 (some .int), Cond.methodLink RX10 62 yX10_itemFailure, Cond.static yX10_itemFailure, Cond.code yX10_itemFailure cX10_itemFailure 2 (some .int), Cond.methodLink RX10 149 ⟨"LoopMixer$Row", "size", "()I"⟩, Cond.sameMethod "LoopMixer$Row" "LoopMixer$Row" "size" "()I", Cond.selects RX1 ⟨"LoopMixer$Row", "size", "()I"⟩ yX1_size]
def wsX10_play_r2 : List Cond := [Cond.instanceMethod yX1_size, Cond.initialized RX1, Cond.code yX1_size cX1_size 1 (some .int), Cond.fieldLink RX1 7 "LoopMixer$DoubleRow" "items" "[D", Cond.selects RX3 ⟨"LoopMixer$Row", "size", "()I"⟩ yX3_size, Cond.instanceMethod yX3_size, Cond.initialized RX3, Cond.code yX3_size cX3_size 1 (some .int), Cond.fieldLink RX3 7 "LoopMixer$FloatRow" "items" "[F", Cond.methodLink RX10 191 yX8_hasBarePlace, Cond.instanceMethod yX8_hasBarePlace, Cond.selects RX8 yX8_hasBarePlace yX8_hasBarePlace, Cond.initialized RX8, Cond.code yX8_hasBarePlace cX8_hasBarePlace 2 (some .boolean), Cond.fieldLink RX8 17 "LoopMixer$Rack" "places" "[LLoopMixer$Effect;", Cond.methodLink RX10 78 ⟨"LoopMixer$Row", "item", "(I)D"⟩, Cond.sameMethod "LoopMixer$Row" "LoopMixer$Row" "item" "(I)D", Cond.selects RX1 ⟨"LoopMixer$Row", "item", "(I)D"⟩ yX1_item, Cond.instanceMethod yX1_item, Cond.code yX1_item cX1_item 2 (some .double), Cond.selects RX3 ⟨"LoopMixer$Row", "item", "(I)D"⟩ yX3_item, Cond.instanceMethod yX3_item, Cond.code yX3_item cX3_item 2 (some .double), Cond.methodLink RX10 181 yX7_held]
def wsX10_play_r3 : List Cond := [Cond.static yX7_held, Cond.initialized RX7, Cond.code yX7_held cX7_held 3 (some .float), Cond.constantFloat RX7 35 (2139095039), Cond.methodLink RX10 185 yX8_heldFrom, Cond.instanceMethod yX8_heldFrom, Cond.selects RX8 yX8_heldFrom yX8_heldFrom, Cond.code yX8_heldFrom cX8_heldFrom 5 (some .float), Cond.methodLink RX8 21 ⟨"LoopMixer$Effect", "heldFrom", "(F)F"⟩, Cond.sameMethod "LoopMixer$Effect" "LoopMixer$Effect" "heldFrom" "(F)F", Cond.selects RX0 ⟨"LoopMixer$Effect", "heldFrom", "(F)F"⟩ yX2_heldFrom, Cond.instanceMethod yX2_heldFrom, Cond.initialized RX2, Cond.code yX2_heldFrom cX2_heldFrom 2 (some .float), Cond.methodLink RX2 13 ⟨"LoopMixer$Effect", "madeFrom", "(D)D"⟩, Cond.sameMethod "LoopMixer$Effect" "LoopMixer$Effect" "madeFrom" "(D)D", Cond.selects RX0 ⟨"LoopMixer$Effect", "madeFrom", "(D)D"⟩ yX0_madeFrom, Cond.instanceMethod yX0_madeFrom, Cond.initialized RX0, Cond.code yX0_madeFrom cX0_madeFrom 5 (some .double), Cond.fieldLink RX0 9 "LoopMixer$Crush" "amount" "D", Cond.sameField "LoopMixer$Crush" "LoopMixer$Effect" "amount" "D", Cond.methodLink RX0 15 Lib.Math.max.name, Cond.static Lib.Math.max.name]
def wsX10_play_r4 : List Cond := [Cond.initialized "java/lang/Math", Cond.code Lib.Math.max.name Lib.Math.max.code 2 (some .int), Cond.selects RX4 ⟨"LoopMixer$Effect", "madeFrom", "(D)D"⟩ yX4_madeFrom, Cond.instanceMethod yX4_madeFrom, Cond.initialized RX4, Cond.code yX4_madeFrom cX4_madeFrom 5 (some .double), Cond.constantDouble RX4 17 (4611686018427387904), Cond.constantDouble RX4 25 (13830554455654793216), Cond.constantDouble RX4 27 (13835058055282163712), Cond.methodLink RX4 13 yX5_madeFrom, Cond.sameMethod "LoopMixer$Gain" "LoopMixer$Gain" "madeFrom" "(D)D", Cond.superclass RX4 RX5, Cond.instanceMethod yX5_madeFrom, Cond.initialized RX5, Cond.code yX5_madeFrom cX5_madeFrom 3 (some .double), Cond.fieldLink RX5 9 "LoopMixer$Gain" "amount" "D", Cond.sameField "LoopMixer$Gain" "LoopMixer$Effect" "amount" "D", Cond.methodLink RX4 19 yX7_rest, Cond.static yX7_rest, Cond.code yX7_rest cX7_rest 11 (some .double), Cond.constantDouble RX7 27 (4611686018427387904), Cond.methodLink RX7 23 yX7_sizeOf, Cond.static yX7_sizeOf, Cond.code yX7_sizeOf cX7_sizeOf 2 (some .double)]
def wsX10_play_r5 : List Cond := [Cond.methodLink RX7 36 yX7_greatestPart, Cond.static yX7_greatestPart, Cond.code yX7_greatestPart cX7_greatestPart 10 (some .double), Cond.selects RX5 ⟨"LoopMixer$Effect", "madeFrom", "(D)D"⟩ yX5_madeFrom, Cond.methodLink RX2 17 yX7_held, Cond.selects RX4 ⟨"LoopMixer$Effect", "heldFrom", "(F)F"⟩ yX2_heldFrom, Cond.selects RX5 ⟨"LoopMixer$Effect", "heldFrom", "(F)F"⟩ yX2_heldFrom, Cond.methodLink RX10 188 yX6_moveOn, Cond.instanceMethod yX6_moveOn, Cond.selects RX6 yX6_moveOn yX6_moveOn, Cond.initialized RX6, Cond.code yX6_moveOn cX6_moveOn 4 none, Cond.fieldLink RX6 23 "LoopMixer$Head" "place" "D", Cond.fieldLink RX6 19 "LoopMixer$Head" "rate" "D", Cond.fieldLink RX6 32 "LoopMixer$Head" "steps" "J", Cond.methodLink RX6 26 yX7_rest]
def wsX10_play : List Cond := .code yX10_play cX10_play 5 (some .int) :: ((wsX10_play_r1 ++ (wsX10_play_r2 ++ (wsX10_play_r3 ++ (wsX10_play_r4 ++ wsX10_play_r5)))) ++ wsX100 ++ wsX60 ++ wsX10 ++ wsX30 ++ wsX80 ++ wsX00 ++ wsX40 ++ wsX50)
def wsX10_failed : List Cond := .code yX10_failed cX10_failed 1 (some .int) :: ([.fieldLink RX10 126 "LoopMixer" "ending" "I", .methodLink RX10 66 yX10_toldFailure, .static yX10_toldFailure, .initialized RX10, .code yX10_toldFailure cX10_toldFailure 1 (some .int)] ++ wsX100)
def wsX10_mix : List Cond := .code yX10_mix cX10_mix 5 (some .int) :: ([.fieldLink RX10 36 "LoopMixer" "sums" "[F", .constantDouble RX10 133 (4674736138332667904), .methodLink RX10 40 yX10_isBelow, .static yX10_isBelow, .initialized RX10, .code yX10_isBelow cX10_isBelow 2 (some .boolean), .methodLink RX10 82 yX7_toBits, .static yX7_toBits, .initialized RX7, .code yX7_toBits cX7_toBits 13 (some .long), .constantDouble RX7 27 (4611686018427387904), .constantLong RX7 33 (-1), .methodLink RX7 23 yX7_sizeOf, .static yX7_sizeOf, .code yX7_sizeOf cX7_sizeOf 2 (some .double), .methodLink RX7 29 yX7_isNegative, .static yX7_isNegative, .code yX7_isNegative cX7_isNegative 2 (some .boolean), .methodLink RX10 86 yX10_tell, .instanceMethod yX10_tell, .selects RX10 yX10_tell yX10_tell, .code yX10_tell cX10_tell 3 (some .int), .fieldLink RX10 146 "LoopMixer" "latest" "J"] ++ wsX100)
def wsX10_hush : List Cond := .code yX10_hush cX10_hush 2 (some .int) :: ([.fieldLink RX10 36 "LoopMixer" "sums" "[F"] ++ wsX100)
def wsX10_at : List Cond := .code yX10_at cX10_at 4 (some .int) :: ([.fieldLink RX10 32 "LoopMixer" "heads" "[LLoopMixer$Head;", .methodLink RX10 40 yX10_isBelow, .static yX10_isBelow, .initialized RX10, .code yX10_isBelow cX10_isBelow 2 (some .boolean), .methodLink RX10 82 yX7_toBits, .static yX7_toBits, .initialized RX7, .code yX7_toBits cX7_toBits 13 (some .long), .constantDouble RX7 27 (4611686018427387904), .constantLong RX7 33 (-1), .methodLink RX7 23 yX7_sizeOf, .static yX7_sizeOf, .code yX7_sizeOf cX7_sizeOf 2 (some .double), .methodLink RX7 29 yX7_isNegative, .static yX7_isNegative, .code yX7_isNegative cX7_isNegative 2 (some .boolean), .methodLink RX10 86 yX10_tell, .instanceMethod yX10_tell, .selects RX10 yX10_tell yX10_tell, .code yX10_tell cX10_tell 3 (some .int), .fieldLink RX10 146 "LoopMixer" "latest" "J"] ++ wsX100 ++ wsX60)
def wsX10_clock : List Cond := .code yX10_clock cX10_clock 4 (some .int) :: ([.fieldLink RX10 143 "LoopMixer" "time" "J", .methodLink RX10 40 yX10_isBelow, .static yX10_isBelow, .initialized RX10, .code yX10_isBelow cX10_isBelow 2 (some .boolean), .methodLink RX10 86 yX10_tell, .instanceMethod yX10_tell, .selects RX10 yX10_tell yX10_tell, .code yX10_tell cX10_tell 3 (some .int), .fieldLink RX10 146 "LoopMixer" "latest" "J", .methodLink RX10 82 yX7_toBits, .static yX7_toBits, .initialized RX7, .code yX7_toBits cX7_toBits 13 (some .long), .constantDouble RX7 27 (4611686018427387904), .constantLong RX7 33 (-1), .methodLink RX7 23 yX7_sizeOf, .static yX7_sizeOf, .code yX7_sizeOf cX7_sizeOf 2 (some .double), .methodLink RX7 29 yX7_isNegative, .static yX7_isNegative, .code yX7_isNegative cX7_isNegative 2 (some .boolean)] ++ wsX100)
def wsX10_told : List Cond := .code yX10_told cX10_told 1 (some .long) :: ([.fieldLink RX10 146 "LoopMixer" "latest" "J"] ++ wsX100)
def wsX11_init : List Cond := .code yX11_init cX11_init 1 none :: ([.methodLink RX11 3 objectInit, .instanceMethod objectInit, .code objectInit ⟨#[0xb1]⟩ 1 none, .arrayClass .int, .fieldLink RX11 9 "LoopMixerModel" "sizes" "[I", .arrayClass .double, .fieldLink RX11 15 "LoopMixerModel" "items" "[D", .fieldLink RX11 19 "LoopMixerModel" "rowOf" "[I", .fieldLink RX11 22 "LoopMixerModel" "kinds" "[I", .fieldLink RX11 25 "LoopMixerModel" "amounts" "[D", .fieldLink RX11 28 "LoopMixerModel" "effectOf" "[I", .fieldLink RX11 31 "LoopMixerModel" "rackOf" "[I", .fieldLink RX11 34 "LoopMixerModel" "hooks" "[I", .arrayClass .boolean, .fieldLink RX11 37 "LoopMixerModel" "isSet" "[Z", .fieldLink RX11 41 "LoopMixerModel" "track" "[I", .fieldLink RX11 44 "LoopMixerModel" "curve" "[I", .fieldLink RX11 47 "LoopMixerModel" "rack" "[I", .fieldLink RX11 50 "LoopMixerModel" "rate" "[D", .fieldLink RX11 53 "LoopMixerModel" "place" "[D", .arrayClass .long, .fieldLink RX11 56 "LoopMixerModel" "steps" "[J", .fieldLink RX11 60 "LoopMixerModel" "mix" "[D"] ++ wsX110)
def wsX11_in : List Cond := .code yX11_in cX11_in 3 (some .boolean) :: ([])
def wsX11_fails : List Cond := .code yX11_fails cX11_fails 1 (some .int) :: ([])
def wsX11_isFine : List Cond := .code yX11_isFine cX11_isFine 3 (some .boolean) :: ([.constantLong RX11 63 (9223372036854775807), .constantLong RX11 65 (9218868437227405312), .constant RX11 67 (2147483647), .constant RX11 68 (2139095040)])
def wsX11_number : List Cond := .code yX11_number cX11_number 3 (some .double) :: ([.methodLink RX11 69 ⟨"java/lang/Double", "longBitsToDouble", "(J)D"⟩, .native ⟨"java/lang/Double", "longBitsToDouble", "(J)D"⟩, .static ⟨"java/lang/Double", "longBitsToDouble", "(J)D"⟩, .initialized "java/lang/Double", .methodLink RX11 75 ⟨"java/lang/Float", "intBitsToFloat", "(I)F"⟩, .native ⟨"java/lang/Float", "intBitsToFloat", "(I)F"⟩, .static ⟨"java/lang/Float", "intBitsToFloat", "(I)F"⟩, .initialized "java/lang/Float"])
def wsJxe99ae_isNaN_b9ae7 : List Cond := .code yJxe99ae_isNaN_b9ae7 cJxe99ae_isNaN_b9ae7 2 (some .boolean) :: ([])
def wsJxe99ae_doubleToLongBits_ccdee : List Cond := .code yJxe99ae_doubleToLongBits_ccdee cJxe99ae_doubleToLongBits_ccdee 2 (some .long) :: ([.methodLink RJxe99ae 134 ⟨"java/lang/Double", "doubleToRawLongBits", "(D)J"⟩, .native ⟨"java/lang/Double", "doubleToRawLongBits", "(D)J"⟩, .static ⟨"java/lang/Double", "doubleToRawLongBits", "(D)J"⟩, .initialized "java/lang/Double", .constantLong RJxe99ae 137 (9221120237041090560), .methodLink RJxe99ae 122 yJxe99ae_isNaN_b9ae7, .static yJxe99ae_isNaN_b9ae7, .initialized RJxe99ae, .code yJxe99ae_isNaN_b9ae7 cJxe99ae_isNaN_b9ae7 2 (some .boolean)])
def wsJxf58ca_isNaN_12338 : List Cond := .code yJxf58ca_isNaN_12338 cJxf58ca_isNaN_12338 1 (some .boolean) :: ([])
def wsJxf58ca_floatToIntBits_5c35a : List Cond := .code yJxf58ca_floatToIntBits_5c35a cJxf58ca_floatToIntBits_5c35a 1 (some .int) :: ([.methodLink RJxf58ca 74 ⟨"java/lang/Float", "floatToRawIntBits", "(F)I"⟩, .native ⟨"java/lang/Float", "floatToRawIntBits", "(F)I"⟩, .static ⟨"java/lang/Float", "floatToRawIntBits", "(F)I"⟩, .initialized "java/lang/Float", .constant RJxf58ca 77 (2143289344), .methodLink RJxf58ca 59 yJxf58ca_isNaN_12338, .static yJxf58ca_isNaN_12338, .initialized RJxf58ca, .code yJxf58ca_isNaN_12338 cJxf58ca_isNaN_12338 1 (some .boolean)])
def wsX11_bitsOf : List Cond := .code yX11_bitsOf cX11_bitsOf 3 (some .long) :: ([.methodLink RX11 79 yJxe99ae_doubleToLongBits_ccdee, .static yJxe99ae_doubleToLongBits_ccdee, .initialized RJxe99ae, .code yJxe99ae_doubleToLongBits_ccdee cJxe99ae_doubleToLongBits_ccdee 2 (some .long), .methodLink RJxe99ae 134 ⟨"java/lang/Double", "doubleToRawLongBits", "(D)J"⟩, .native ⟨"java/lang/Double", "doubleToRawLongBits", "(D)J"⟩, .static ⟨"java/lang/Double", "doubleToRawLongBits", "(D)J"⟩, .initialized "java/lang/Double", .constantLong RJxe99ae 137 (9221120237041090560), .methodLink RJxe99ae 122 yJxe99ae_isNaN_b9ae7, .static yJxe99ae_isNaN_b9ae7, .code yJxe99ae_isNaN_b9ae7 cJxe99ae_isNaN_b9ae7 2 (some .boolean), .methodLink RX11 83 yJxf58ca_floatToIntBits_5c35a, .static yJxf58ca_floatToIntBits_5c35a, .initialized RJxf58ca, .code yJxf58ca_floatToIntBits_5c35a cJxf58ca_floatToIntBits_5c35a 1 (some .int), .methodLink RJxf58ca 74 ⟨"java/lang/Float", "floatToRawIntBits", "(F)I"⟩, .native ⟨"java/lang/Float", "floatToRawIntBits", "(F)I"⟩, .static ⟨"java/lang/Float", "floatToRawIntBits", "(F)I"⟩, .initialized "java/lang/Float", .constant RJxf58ca 77 (2143289344), .methodLink RJxf58ca 59 yJxf58ca_isNaN_12338, .static yJxf58ca_isNaN_12338, .code yJxf58ca_isNaN_12338 cJxf58ca_isNaN_12338 1 (some .boolean)])
def wsX11_held : List Cond := .code yX11_held cX11_held 3 (some .double) :: ([.constantFloat RX11 87 (2139095039), .constantDouble RX11 88 (5183643170566569984), .constantFloat RX11 90 (4286578687), .constantDouble RX11 91 (14407015207421345792)])
def wsX11_slotOf : List Cond := .code yX11_slotOf cX11_slotOf 2 (some .int) :: ([])
def wsX11_row : List Cond := .code yX11_row cX11_row 5 (some .int) :: ([.fieldLink RX11 9 "LoopMixerModel" "sizes" "[I", .fieldLink RX11 97 "LoopMixerModel" "rows" "I", .fieldLink RX11 15 "LoopMixerModel" "items" "[D", .fieldLink RX11 19 "LoopMixerModel" "rowOf" "[I", .methodLink RX11 93 yX11_in, .static yX11_in, .initialized RX11, .code yX11_in cX11_in 3 (some .boolean), .methodLink RX11 101 yX11_slotOf, .static yX11_slotOf, .code yX11_slotOf cX11_slotOf 2 (some .int)] ++ wsX110)
def wsX11_share : List Cond := .code yX11_share cX11_share 4 (some .int) :: ([.fieldLink RX11 19 "LoopMixerModel" "rowOf" "[I", .methodLink RX11 93 yX11_in, .static yX11_in, .initialized RX11, .code yX11_in cX11_in 3 (some .boolean), .methodLink RX11 101 yX11_slotOf, .static yX11_slotOf, .code yX11_slotOf cX11_slotOf 2 (some .int)] ++ wsX110)
def wsX11_drop : List Cond := .code yX11_drop cX11_drop 4 (some .int) :: ([.fieldLink RX11 19 "LoopMixerModel" "rowOf" "[I", .methodLink RX11 93 yX11_in, .static yX11_in, .initialized RX11, .code yX11_in cX11_in 3 (some .boolean), .methodLink RX11 101 yX11_slotOf, .static yX11_slotOf, .code yX11_slotOf cX11_slotOf 2 (some .int)] ++ wsX110)
def wsX11_asked : List Cond := .code yX11_asked cX11_asked 5 (some .int) :: ([.fieldLink RX11 19 "LoopMixerModel" "rowOf" "[I", .fieldLink RX11 9 "LoopMixerModel" "sizes" "[I", .methodLink RX11 101 yX11_slotOf, .static yX11_slotOf, .initialized RX11, .code yX11_slotOf cX11_slotOf 2 (some .int), .methodLink RX11 93 yX11_in, .static yX11_in, .code yX11_in cX11_in 3 (some .boolean)] ++ wsX110)
def wsX11_item : List Cond := .code yX11_item cX11_item 4 (some .double) :: ([.fieldLink RX11 15 "LoopMixerModel" "items" "[D", .fieldLink RX11 19 "LoopMixerModel" "rowOf" "[I", .methodLink RX11 101 yX11_slotOf, .static yX11_slotOf, .initialized RX11, .code yX11_slotOf cX11_slotOf 2 (some .int)] ++ wsX110)
def wsX11_set_r1 : List Cond := [Cond.fieldLink RX11 15 "LoopMixerModel" "items" "[D", Cond.fieldLink RX11 19 "LoopMixerModel" "rowOf" "[I", Cond.methodLink RX11 93 yX11_in, Cond.static yX11_in, Cond.initialized RX11, Cond.code yX11_in cX11_in 3 (some .boolean), Cond.methodLink RX11 105 yX11_isFine, Cond.static yX11_isFine, Cond.code yX11_isFine cX11_isFine 3 (some .boolean), Cond.constantLong RX11 63 (9223372036854775807), Cond.constantLong RX11 65 (9218868437227405312), Cond.constant RX11 67 (2147483647), Cond.constant RX11 68 (2139095040), Cond.methodLink RX11 109 yX11_asked, Cond.instanceMethod yX11_asked, Cond.selects RX11 yX11_asked yX11_asked, Cond.code yX11_asked cX11_asked 5 (some .int), Cond.fieldLink RX11 9 "LoopMixerModel" "sizes" "[I", Cond.methodLink RX11 101 yX11_slotOf, Cond.static yX11_slotOf, Cond.code yX11_slotOf cX11_slotOf 2 (some .int), Cond.methodLink RX11 113 yX11_fails, Cond.static yX11_fails, Cond.code yX11_fails cX11_fails 1 (some .int)]
def wsX11_set_r2 : List Cond := [Cond.methodLink RX11 117 yX11_number, Cond.static yX11_number, Cond.code yX11_number cX11_number 3 (some .double), Cond.methodLink RX11 69 ⟨"java/lang/Double", "longBitsToDouble", "(J)D"⟩, Cond.native ⟨"java/lang/Double", "longBitsToDouble", "(J)D"⟩, Cond.static ⟨"java/lang/Double", "longBitsToDouble", "(J)D"⟩, Cond.initialized "java/lang/Double", Cond.methodLink RX11 75 ⟨"java/lang/Float", "intBitsToFloat", "(I)F"⟩, Cond.native ⟨"java/lang/Float", "intBitsToFloat", "(I)F"⟩, Cond.static ⟨"java/lang/Float", "intBitsToFloat", "(I)F"⟩, Cond.initialized "java/lang/Float"]
def wsX11_set : List Cond := .code yX11_set cX11_set 7 (some .int) :: ((wsX11_set_r1 ++ wsX11_set_r2) ++ wsX110)
def wsX11_get_r1 : List Cond := [Cond.fieldLink RX11 129 "LoopMixerModel" "told" "J", Cond.methodLink RX11 93 yX11_in, Cond.static yX11_in, Cond.initialized RX11, Cond.code yX11_in cX11_in 3 (some .boolean), Cond.methodLink RX11 109 yX11_asked, Cond.instanceMethod yX11_asked, Cond.selects RX11 yX11_asked yX11_asked, Cond.code yX11_asked cX11_asked 5 (some .int), Cond.fieldLink RX11 19 "LoopMixerModel" "rowOf" "[I", Cond.fieldLink RX11 9 "LoopMixerModel" "sizes" "[I", Cond.methodLink RX11 101 yX11_slotOf, Cond.static yX11_slotOf, Cond.code yX11_slotOf cX11_slotOf 2 (some .int), Cond.methodLink RX11 113 yX11_fails, Cond.static yX11_fails, Cond.code yX11_fails cX11_fails 1 (some .int), Cond.methodLink RX11 121 yX11_item, Cond.instanceMethod yX11_item, Cond.selects RX11 yX11_item yX11_item, Cond.code yX11_item cX11_item 4 (some .double), Cond.fieldLink RX11 15 "LoopMixerModel" "items" "[D", Cond.methodLink RX11 125 yX11_bitsOf, Cond.static yX11_bitsOf]
def wsX11_get_r2 : List Cond := [Cond.code yX11_bitsOf cX11_bitsOf 3 (some .long), Cond.methodLink RX11 79 yJxe99ae_doubleToLongBits_ccdee, Cond.static yJxe99ae_doubleToLongBits_ccdee, Cond.initialized RJxe99ae, Cond.code yJxe99ae_doubleToLongBits_ccdee cJxe99ae_doubleToLongBits_ccdee 2 (some .long), Cond.methodLink RJxe99ae 134 ⟨"java/lang/Double", "doubleToRawLongBits", "(D)J"⟩, Cond.native ⟨"java/lang/Double", "doubleToRawLongBits", "(D)J"⟩, Cond.static ⟨"java/lang/Double", "doubleToRawLongBits", "(D)J"⟩, Cond.initialized "java/lang/Double", Cond.constantLong RJxe99ae 137 (9221120237041090560), Cond.methodLink RJxe99ae 122 yJxe99ae_isNaN_b9ae7, Cond.static yJxe99ae_isNaN_b9ae7, Cond.code yJxe99ae_isNaN_b9ae7 cJxe99ae_isNaN_b9ae7 2 (some .boolean), Cond.methodLink RX11 83 yJxf58ca_floatToIntBits_5c35a, Cond.static yJxf58ca_floatToIntBits_5c35a, Cond.initialized RJxf58ca, Cond.code yJxf58ca_floatToIntBits_5c35a cJxf58ca_floatToIntBits_5c35a 1 (some .int), Cond.methodLink RJxf58ca 74 ⟨"java/lang/Float", "floatToRawIntBits", "(F)I"⟩, Cond.native ⟨"java/lang/Float", "floatToRawIntBits", "(F)I"⟩, Cond.static ⟨"java/lang/Float", "floatToRawIntBits", "(F)I"⟩, Cond.initialized "java/lang/Float", Cond.constant RJxf58ca 77 (2143289344), Cond.methodLink RJxf58ca 59 yJxf58ca_isNaN_12338, Cond.static yJxf58ca_isNaN_12338]
def wsX11_get_r3 : List Cond := [Cond.code yJxf58ca_isNaN_12338 cJxf58ca_isNaN_12338 1 (some .boolean)]
def wsX11_get : List Cond := .code yX11_get cX11_get 5 (some .int) :: ((wsX11_get_r1 ++ (wsX11_get_r2 ++ wsX11_get_r3)) ++ wsX110)
def wsX11_wrap : List Cond := .code yX11_wrap cX11_wrap 8 (some .int) :: ([.fieldLink RX11 15 "LoopMixerModel" "items" "[D", .fieldLink RX11 19 "LoopMixerModel" "rowOf" "[I", .methodLink RX11 93 yX11_in, .static yX11_in, .initialized RX11, .code yX11_in cX11_in 3 (some .boolean), .methodLink RX11 109 yX11_asked, .instanceMethod yX11_asked, .selects RX11 yX11_asked yX11_asked, .code yX11_asked cX11_asked 5 (some .int), .fieldLink RX11 9 "LoopMixerModel" "sizes" "[I", .methodLink RX11 101 yX11_slotOf, .static yX11_slotOf, .code yX11_slotOf cX11_slotOf 2 (some .int), .methodLink RX11 113 yX11_fails, .static yX11_fails, .code yX11_fails cX11_fails 1 (some .int), .methodLink RX11 121 yX11_item, .instanceMethod yX11_item, .selects RX11 yX11_item yX11_item, .code yX11_item cX11_item 4 (some .double)] ++ wsX110)
def wsX11_effect : List Cond := .code yX11_effect cX11_effect 7 (some .int) :: ([.methodLink RX11 69 ⟨"java/lang/Double", "longBitsToDouble", "(J)D"⟩, .native ⟨"java/lang/Double", "longBitsToDouble", "(J)D"⟩, .static ⟨"java/lang/Double", "longBitsToDouble", "(J)D"⟩, .initialized "java/lang/Double", .constantDouble RX11 133 (13920209183539462144), .constantDouble RX11 135 (4696837146684686336), .fieldLink RX11 22 "LoopMixerModel" "kinds" "[I", .fieldLink RX11 137 "LoopMixerModel" "effects" "I", .fieldLink RX11 25 "LoopMixerModel" "amounts" "[D", .fieldLink RX11 28 "LoopMixerModel" "effectOf" "[I", .methodLink RX11 93 yX11_in, .static yX11_in, .initialized RX11, .code yX11_in cX11_in 3 (some .boolean), .methodLink RX11 105 yX11_isFine, .static yX11_isFine, .code yX11_isFine cX11_isFine 3 (some .boolean), .constantLong RX11 63 (9223372036854775807), .constantLong RX11 65 (9218868437227405312), .constant RX11 67 (2147483647), .constant RX11 68 (2139095040)] ++ wsX110)
def wsX11_made : List Cond := .code yX11_made cX11_made 8 (some .double) :: ([.fieldLink RX11 25 "LoopMixerModel" "amounts" "[D", .fieldLink RX11 22 "LoopMixerModel" "kinds" "[I", .constantDouble RX11 144 (4611686018427387904), .constantDouble RX11 146 (13830554455654793216), .constantDouble RX11 148 (13835058055282163712), .methodLink RX11 140 yX11_held, .static yX11_held, .initialized RX11, .code yX11_held cX11_held 3 (some .double), .constantFloat RX11 87 (2139095039), .constantDouble RX11 88 (5183643170566569984), .constantFloat RX11 90 (4286578687), .constantDouble RX11 91 (14407015207421345792)] ++ wsX110)
def wsX11_make_r1 : List Cond := [Cond.fieldLink RX11 28 "LoopMixerModel" "effectOf" "[I", Cond.fieldLink RX11 129 "LoopMixerModel" "told" "J", Cond.methodLink RX11 93 yX11_in, Cond.static yX11_in, Cond.initialized RX11, Cond.code yX11_in cX11_in 3 (some .boolean), Cond.methodLink RX11 105 yX11_isFine, Cond.static yX11_isFine, Cond.code yX11_isFine cX11_isFine 3 (some .boolean), Cond.constantLong RX11 63 (9223372036854775807), Cond.constantLong RX11 65 (9218868437227405312), Cond.constant RX11 67 (2147483647), Cond.constant RX11 68 (2139095040), Cond.methodLink RX11 113 yX11_fails, Cond.static yX11_fails, Cond.code yX11_fails cX11_fails 1 (some .int), Cond.methodLink RX11 117 yX11_number, Cond.static yX11_number, Cond.code yX11_number cX11_number 3 (some .double), Cond.methodLink RX11 69 ⟨"java/lang/Double", "longBitsToDouble", "(J)D"⟩, Cond.native ⟨"java/lang/Double", "longBitsToDouble", "(J)D"⟩, Cond.static ⟨"java/lang/Double", "longBitsToDouble", "(J)D"⟩, Cond.initialized "java/lang/Double", Cond.methodLink RX11 75 ⟨"java/lang/Float", "intBitsToFloat", "(I)F"⟩]
def wsX11_make_r2 : List Cond := [Cond.native ⟨"java/lang/Float", "intBitsToFloat", "(I)F"⟩, Cond.static ⟨"java/lang/Float", "intBitsToFloat", "(I)F"⟩, Cond.initialized "java/lang/Float", Cond.methodLink RX11 150 yX11_made, Cond.instanceMethod yX11_made, Cond.selects RX11 yX11_made yX11_made, Cond.code yX11_made cX11_made 8 (some .double), Cond.fieldLink RX11 25 "LoopMixerModel" "amounts" "[D", Cond.fieldLink RX11 22 "LoopMixerModel" "kinds" "[I", Cond.constantDouble RX11 144 (4611686018427387904), Cond.constantDouble RX11 146 (13830554455654793216), Cond.constantDouble RX11 148 (13835058055282163712), Cond.methodLink RX11 140 yX11_held, Cond.static yX11_held, Cond.code yX11_held cX11_held 3 (some .double), Cond.constantFloat RX11 87 (2139095039), Cond.constantDouble RX11 88 (5183643170566569984), Cond.constantFloat RX11 90 (4286578687), Cond.constantDouble RX11 91 (14407015207421345792), Cond.methodLink RX11 125 yX11_bitsOf, Cond.static yX11_bitsOf, Cond.code yX11_bitsOf cX11_bitsOf 3 (some .long), Cond.methodLink RX11 79 yJxe99ae_doubleToLongBits_ccdee, Cond.static yJxe99ae_doubleToLongBits_ccdee]
def wsX11_make_r3 : List Cond := [Cond.initialized RJxe99ae, Cond.code yJxe99ae_doubleToLongBits_ccdee cJxe99ae_doubleToLongBits_ccdee 2 (some .long), Cond.methodLink RJxe99ae 134 ⟨"java/lang/Double", "doubleToRawLongBits", "(D)J"⟩, Cond.native ⟨"java/lang/Double", "doubleToRawLongBits", "(D)J"⟩, Cond.static ⟨"java/lang/Double", "doubleToRawLongBits", "(D)J"⟩, Cond.constantLong RJxe99ae 137 (9221120237041090560), Cond.methodLink RJxe99ae 122 yJxe99ae_isNaN_b9ae7, Cond.static yJxe99ae_isNaN_b9ae7, Cond.code yJxe99ae_isNaN_b9ae7 cJxe99ae_isNaN_b9ae7 2 (some .boolean), Cond.methodLink RX11 83 yJxf58ca_floatToIntBits_5c35a, Cond.static yJxf58ca_floatToIntBits_5c35a, Cond.initialized RJxf58ca, Cond.code yJxf58ca_floatToIntBits_5c35a cJxf58ca_floatToIntBits_5c35a 1 (some .int), Cond.methodLink RJxf58ca 74 ⟨"java/lang/Float", "floatToRawIntBits", "(F)I"⟩, Cond.native ⟨"java/lang/Float", "floatToRawIntBits", "(F)I"⟩, Cond.static ⟨"java/lang/Float", "floatToRawIntBits", "(F)I"⟩, Cond.constant RJxf58ca 77 (2143289344), Cond.methodLink RJxf58ca 59 yJxf58ca_isNaN_12338, Cond.static yJxf58ca_isNaN_12338, Cond.code yJxf58ca_isNaN_12338 cJxf58ca_isNaN_12338 1 (some .boolean)]
def wsX11_make : List Cond := .code yX11_make cX11_make 4 (some .int) :: ((wsX11_make_r1 ++ (wsX11_make_r2 ++ wsX11_make_r3)) ++ wsX110)
def wsX11_fits : List Cond := .code yX11_fits cX11_fits 2 (some .boolean) :: ([])
def wsX11_rack : List Cond := .code yX11_rack cX11_rack 4 (some .int) :: ([.fieldLink RX11 31 "LoopMixerModel" "rackOf" "[I", .fieldLink RX11 34 "LoopMixerModel" "hooks" "[I", .methodLink RX11 93 yX11_in, .static yX11_in, .initialized RX11, .code yX11_in cX11_in 3 (some .boolean)] ++ wsX110)
def wsX11_hang : List Cond := .code yX11_hang cX11_hang 5 (some .int) :: ([.fieldLink RX11 31 "LoopMixerModel" "rackOf" "[I", .fieldLink RX11 28 "LoopMixerModel" "effectOf" "[I", .fieldLink RX11 22 "LoopMixerModel" "kinds" "[I", .fieldLink RX11 34 "LoopMixerModel" "hooks" "[I", .methodLink RX11 93 yX11_in, .static yX11_in, .initialized RX11, .code yX11_in cX11_in 3 (some .boolean), .methodLink RX11 113 yX11_fails, .static yX11_fails, .code yX11_fails cX11_fails 1 (some .int), .methodLink RX11 154 yX11_fits, .static yX11_fits, .code yX11_fits cX11_fits 2 (some .boolean)] ++ wsX110)
def wsX11_take : List Cond := .code yX11_take cX11_take 6 (some .int) :: ([.fieldLink RX11 31 "LoopMixerModel" "rackOf" "[I", .fieldLink RX11 34 "LoopMixerModel" "hooks" "[I", .fieldLink RX11 22 "LoopMixerModel" "kinds" "[I", .fieldLink RX11 28 "LoopMixerModel" "effectOf" "[I", .methodLink RX11 93 yX11_in, .static yX11_in, .initialized RX11, .code yX11_in cX11_in 3 (some .boolean), .methodLink RX11 113 yX11_fails, .static yX11_fails, .code yX11_fails cX11_fails 1 (some .int), .methodLink RX11 154 yX11_fits, .static yX11_fits, .code yX11_fits cX11_fits 2 (some .boolean)] ++ wsX110)
def wsX11_head : List Cond := .code yX11_head cX11_head 9 (some .int) :: ([.methodLink RX11 69 ⟨"java/lang/Double", "longBitsToDouble", "(J)D"⟩, .native ⟨"java/lang/Double", "longBitsToDouble", "(J)D"⟩, .static ⟨"java/lang/Double", "longBitsToDouble", "(J)D"⟩, .initialized "java/lang/Double", .constantDouble RX11 158 (13857576053419016192), .constantDouble RX11 160 (4634204016564240384), .fieldLink RX11 37 "LoopMixerModel" "isSet" "[Z", .fieldLink RX11 41 "LoopMixerModel" "track" "[I", .fieldLink RX11 44 "LoopMixerModel" "curve" "[I", .fieldLink RX11 47 "LoopMixerModel" "rack" "[I", .fieldLink RX11 50 "LoopMixerModel" "rate" "[D", .fieldLink RX11 53 "LoopMixerModel" "place" "[D", .fieldLink RX11 56 "LoopMixerModel" "steps" "[J", .methodLink RX11 93 yX11_in, .static yX11_in, .initialized RX11, .code yX11_in cX11_in 3 (some .boolean), .methodLink RX11 105 yX11_isFine, .static yX11_isFine, .code yX11_isFine cX11_isFine 3 (some .boolean), .constantLong RX11 63 (9223372036854775807), .constantLong RX11 65 (9218868437227405312), .constant RX11 67 (2147483647), .constant RX11 68 (2139095040)] ++ wsX110)
def wsX11_step_r1 : List Cond := [Cond.fieldLink RX11 53 "LoopMixerModel" "place" "[D", Cond.fieldLink RX11 41 "LoopMixerModel" "track" "[I", Cond.fieldLink RX11 44 "LoopMixerModel" "curve" "[I", Cond.fieldLink RX11 19 "LoopMixerModel" "rowOf" "[I", Cond.fieldLink RX11 9 "LoopMixerModel" "sizes" "[I", Cond.fieldLink RX11 15 "LoopMixerModel" "items" "[D", Cond.fieldLink RX11 56 "LoopMixerModel" "steps" "[J", Cond.fieldLink RX11 47 "LoopMixerModel" "rack" "[I", Cond.fieldLink RX11 31 "LoopMixerModel" "rackOf" "[I", Cond.fieldLink RX11 34 "LoopMixerModel" "hooks" "[I", Cond.constantLong RX11 162 (8), Cond.fieldLink RX11 60 "LoopMixerModel" "mix" "[D", Cond.fieldLink RX11 50 "LoopMixerModel" "rate" "[D", Cond.methodLink RX11 109 yX11_asked, Cond.instanceMethod yX11_asked, Cond.selects RX11 yX11_asked yX11_asked, Cond.initialized RX11, Cond.code yX11_asked cX11_asked 5 (some .int), Cond.methodLink RX11 101 yX11_slotOf, Cond.static yX11_slotOf, Cond.code yX11_slotOf cX11_slotOf 2 (some .int), Cond.methodLink RX11 93 yX11_in, Cond.static yX11_in, Cond.code yX11_in cX11_in 3 (some .boolean)]
def wsX11_step_r2 : List Cond := [Cond.methodLink RX11 121 yX11_item, Cond.instanceMethod yX11_item, Cond.selects RX11 yX11_item yX11_item, Cond.code yX11_item cX11_item 4 (some .double), Cond.methodLink RX11 140 yX11_held, Cond.static yX11_held, Cond.code yX11_held cX11_held 3 (some .double), Cond.constantFloat RX11 87 (2139095039), Cond.constantDouble RX11 88 (5183643170566569984), Cond.constantFloat RX11 90 (4286578687), Cond.constantDouble RX11 91 (14407015207421345792), Cond.methodLink RX11 150 yX11_made, Cond.instanceMethod yX11_made, Cond.selects RX11 yX11_made yX11_made, Cond.code yX11_made cX11_made 8 (some .double), Cond.fieldLink RX11 25 "LoopMixerModel" "amounts" "[D", Cond.fieldLink RX11 22 "LoopMixerModel" "kinds" "[I", Cond.constantDouble RX11 144 (4611686018427387904), Cond.constantDouble RX11 146 (13830554455654793216), Cond.constantDouble RX11 148 (13835058055282163712)]
def wsX11_step : List Cond := .code yX11_step cX11_step 11 (some .int) :: ((wsX11_step_r1 ++ wsX11_step_r2) ++ wsX110)
def wsX11_play_r1 : List Cond := [Cond.fieldLink RX11 37 "LoopMixerModel" "isSet" "[Z", Cond.fieldLink RX11 164 "LoopMixerModel" "failure" "I", Cond.methodLink RX11 93 yX11_in, Cond.static yX11_in, Cond.initialized RX11, Cond.code yX11_in cX11_in 3 (some .boolean), Cond.methodLink RX11 167 yX11_step, Cond.instanceMethod yX11_step, Cond.selects RX11 yX11_step yX11_step, Cond.code yX11_step cX11_step 11 (some .int), Cond.fieldLink RX11 53 "LoopMixerModel" "place" "[D", Cond.fieldLink RX11 41 "LoopMixerModel" "track" "[I", Cond.fieldLink RX11 44 "LoopMixerModel" "curve" "[I", Cond.fieldLink RX11 19 "LoopMixerModel" "rowOf" "[I", Cond.fieldLink RX11 9 "LoopMixerModel" "sizes" "[I", Cond.fieldLink RX11 15 "LoopMixerModel" "items" "[D", Cond.fieldLink RX11 56 "LoopMixerModel" "steps" "[J", Cond.fieldLink RX11 47 "LoopMixerModel" "rack" "[I", Cond.fieldLink RX11 31 "LoopMixerModel" "rackOf" "[I", Cond.fieldLink RX11 34 "LoopMixerModel" "hooks" "[I", Cond.constantLong RX11 162 (8), Cond.fieldLink RX11 60 "LoopMixerModel" "mix" "[D", Cond.fieldLink RX11 50 "LoopMixerModel" "rate" "[D", Cond.methodLink RX11 109 yX11_asked]
def wsX11_play_r2 : List Cond := [Cond.instanceMethod yX11_asked, Cond.selects RX11 yX11_asked yX11_asked, Cond.code yX11_asked cX11_asked 5 (some .int), Cond.methodLink RX11 101 yX11_slotOf, Cond.static yX11_slotOf, Cond.code yX11_slotOf cX11_slotOf 2 (some .int), Cond.methodLink RX11 121 yX11_item, Cond.instanceMethod yX11_item, Cond.selects RX11 yX11_item yX11_item, Cond.code yX11_item cX11_item 4 (some .double), Cond.methodLink RX11 140 yX11_held, Cond.static yX11_held, Cond.code yX11_held cX11_held 3 (some .double), Cond.constantFloat RX11 87 (2139095039), Cond.constantDouble RX11 88 (5183643170566569984), Cond.constantFloat RX11 90 (4286578687), Cond.constantDouble RX11 91 (14407015207421345792), Cond.methodLink RX11 150 yX11_made, Cond.instanceMethod yX11_made, Cond.selects RX11 yX11_made yX11_made, Cond.code yX11_made cX11_made 8 (some .double), Cond.fieldLink RX11 25 "LoopMixerModel" "amounts" "[D", Cond.fieldLink RX11 22 "LoopMixerModel" "kinds" "[I", Cond.constantDouble RX11 144 (4611686018427387904)]
def wsX11_play_r3 : List Cond := [Cond.constantDouble RX11 146 (13830554455654793216), Cond.constantDouble RX11 148 (13835058055282163712)]
def wsX11_play : List Cond := .code yX11_play cX11_play 4 (some .int) :: ((wsX11_play_r1 ++ (wsX11_play_r2 ++ wsX11_play_r3)) ++ wsX110)
def wsX11_failed : List Cond := .code yX11_failed cX11_failed 1 (some .int) :: ([.fieldLink RX11 164 "LoopMixerModel" "failure" "I", .methodLink RX11 113 yX11_fails, .static yX11_fails, .initialized RX11, .code yX11_fails cX11_fails 1 (some .int)] ++ wsX110)
def wsX11_mix_r1 : List Cond := [Cond.fieldLink RX11 60 "LoopMixerModel" "mix" "[D", Cond.constantDouble RX11 170 (4674736138332667904), Cond.fieldLink RX11 129 "LoopMixerModel" "told" "J", Cond.methodLink RX11 93 yX11_in, Cond.static yX11_in, Cond.initialized RX11, Cond.code yX11_in cX11_in 3 (some .boolean), Cond.methodLink RX11 125 yX11_bitsOf, Cond.static yX11_bitsOf, Cond.code yX11_bitsOf cX11_bitsOf 3 (some .long), Cond.methodLink RX11 79 yJxe99ae_doubleToLongBits_ccdee, Cond.static yJxe99ae_doubleToLongBits_ccdee, Cond.initialized RJxe99ae, Cond.code yJxe99ae_doubleToLongBits_ccdee cJxe99ae_doubleToLongBits_ccdee 2 (some .long), Cond.methodLink RJxe99ae 134 ⟨"java/lang/Double", "doubleToRawLongBits", "(D)J"⟩, Cond.native ⟨"java/lang/Double", "doubleToRawLongBits", "(D)J"⟩, Cond.static ⟨"java/lang/Double", "doubleToRawLongBits", "(D)J"⟩, Cond.initialized "java/lang/Double", Cond.constantLong RJxe99ae 137 (9221120237041090560), Cond.methodLink RJxe99ae 122 yJxe99ae_isNaN_b9ae7, Cond.static yJxe99ae_isNaN_b9ae7, Cond.code yJxe99ae_isNaN_b9ae7 cJxe99ae_isNaN_b9ae7 2 (some .boolean), Cond.methodLink RX11 83 yJxf58ca_floatToIntBits_5c35a, Cond.static yJxf58ca_floatToIntBits_5c35a]
def wsX11_mix_r2 : List Cond := [Cond.initialized RJxf58ca, Cond.code yJxf58ca_floatToIntBits_5c35a cJxf58ca_floatToIntBits_5c35a 1 (some .int), Cond.methodLink RJxf58ca 74 ⟨"java/lang/Float", "floatToRawIntBits", "(F)I"⟩, Cond.native ⟨"java/lang/Float", "floatToRawIntBits", "(F)I"⟩, Cond.static ⟨"java/lang/Float", "floatToRawIntBits", "(F)I"⟩, Cond.initialized "java/lang/Float", Cond.constant RJxf58ca 77 (2143289344), Cond.methodLink RJxf58ca 59 yJxf58ca_isNaN_12338, Cond.static yJxf58ca_isNaN_12338, Cond.code yJxf58ca_isNaN_12338 cJxf58ca_isNaN_12338 1 (some .boolean)]
def wsX11_mix : List Cond := .code yX11_mix cX11_mix 6 (some .int) :: ((wsX11_mix_r1 ++ wsX11_mix_r2) ++ wsX110)
def wsX11_hush : List Cond := .code yX11_hush cX11_hush 2 (some .int) :: ([.fieldLink RX11 60 "LoopMixerModel" "mix" "[D"] ++ wsX110)
def wsX11_at_r1 : List Cond := [Cond.fieldLink RX11 37 "LoopMixerModel" "isSet" "[Z", Cond.fieldLink RX11 53 "LoopMixerModel" "place" "[D", Cond.fieldLink RX11 56 "LoopMixerModel" "steps" "[J", Cond.fieldLink RX11 129 "LoopMixerModel" "told" "J", Cond.methodLink RX11 93 yX11_in, Cond.static yX11_in, Cond.initialized RX11, Cond.code yX11_in cX11_in 3 (some .boolean), Cond.methodLink RX11 125 yX11_bitsOf, Cond.static yX11_bitsOf, Cond.code yX11_bitsOf cX11_bitsOf 3 (some .long), Cond.methodLink RX11 79 yJxe99ae_doubleToLongBits_ccdee, Cond.static yJxe99ae_doubleToLongBits_ccdee, Cond.initialized RJxe99ae, Cond.code yJxe99ae_doubleToLongBits_ccdee cJxe99ae_doubleToLongBits_ccdee 2 (some .long), Cond.methodLink RJxe99ae 134 ⟨"java/lang/Double", "doubleToRawLongBits", "(D)J"⟩, Cond.native ⟨"java/lang/Double", "doubleToRawLongBits", "(D)J"⟩, Cond.static ⟨"java/lang/Double", "doubleToRawLongBits", "(D)J"⟩, Cond.initialized "java/lang/Double", Cond.constantLong RJxe99ae 137 (9221120237041090560), Cond.methodLink RJxe99ae 122 yJxe99ae_isNaN_b9ae7, Cond.static yJxe99ae_isNaN_b9ae7, Cond.code yJxe99ae_isNaN_b9ae7 cJxe99ae_isNaN_b9ae7 2 (some .boolean), Cond.methodLink RX11 83 yJxf58ca_floatToIntBits_5c35a]
def wsX11_at_r2 : List Cond := [Cond.static yJxf58ca_floatToIntBits_5c35a, Cond.initialized RJxf58ca, Cond.code yJxf58ca_floatToIntBits_5c35a cJxf58ca_floatToIntBits_5c35a 1 (some .int), Cond.methodLink RJxf58ca 74 ⟨"java/lang/Float", "floatToRawIntBits", "(F)I"⟩, Cond.native ⟨"java/lang/Float", "floatToRawIntBits", "(F)I"⟩, Cond.static ⟨"java/lang/Float", "floatToRawIntBits", "(F)I"⟩, Cond.initialized "java/lang/Float", Cond.constant RJxf58ca 77 (2143289344), Cond.methodLink RJxf58ca 59 yJxf58ca_isNaN_12338, Cond.static yJxf58ca_isNaN_12338, Cond.code yJxf58ca_isNaN_12338 cJxf58ca_isNaN_12338 1 (some .boolean)]
def wsX11_at : List Cond := .code yX11_at cX11_at 3 (some .int) :: ((wsX11_at_r1 ++ wsX11_at_r2) ++ wsX110)
def wsX11_clock_r1 : List Cond := [Cond.fieldLink RX11 172 "LoopMixerModel" "clock" "J", Cond.fieldLink RX11 129 "LoopMixerModel" "told" "J", Cond.methodLink RX11 93 yX11_in, Cond.static yX11_in, Cond.initialized RX11, Cond.code yX11_in cX11_in 3 (some .boolean), Cond.methodLink RX11 83 yJxf58ca_floatToIntBits_5c35a, Cond.static yJxf58ca_floatToIntBits_5c35a, Cond.initialized RJxf58ca, Cond.code yJxf58ca_floatToIntBits_5c35a cJxf58ca_floatToIntBits_5c35a 1 (some .int), Cond.methodLink RJxf58ca 74 ⟨"java/lang/Float", "floatToRawIntBits", "(F)I"⟩, Cond.native ⟨"java/lang/Float", "floatToRawIntBits", "(F)I"⟩, Cond.static ⟨"java/lang/Float", "floatToRawIntBits", "(F)I"⟩, Cond.initialized "java/lang/Float", Cond.constant RJxf58ca 77 (2143289344), Cond.methodLink RJxf58ca 59 yJxf58ca_isNaN_12338, Cond.static yJxf58ca_isNaN_12338, Cond.code yJxf58ca_isNaN_12338 cJxf58ca_isNaN_12338 1 (some .boolean), Cond.methodLink RX11 79 yJxe99ae_doubleToLongBits_ccdee, Cond.static yJxe99ae_doubleToLongBits_ccdee, Cond.initialized RJxe99ae, Cond.code yJxe99ae_doubleToLongBits_ccdee cJxe99ae_doubleToLongBits_ccdee 2 (some .long), Cond.methodLink RJxe99ae 134 ⟨"java/lang/Double", "doubleToRawLongBits", "(D)J"⟩, Cond.native ⟨"java/lang/Double", "doubleToRawLongBits", "(D)J"⟩]
def wsX11_clock_r2 : List Cond := [Cond.static ⟨"java/lang/Double", "doubleToRawLongBits", "(D)J"⟩, Cond.initialized "java/lang/Double", Cond.constantLong RJxe99ae 137 (9221120237041090560), Cond.methodLink RJxe99ae 122 yJxe99ae_isNaN_b9ae7, Cond.static yJxe99ae_isNaN_b9ae7, Cond.code yJxe99ae_isNaN_b9ae7 cJxe99ae_isNaN_b9ae7 2 (some .boolean)]
def wsX11_clock : List Cond := .code yX11_clock cX11_clock 4 (some .int) :: ((wsX11_clock_r1 ++ wsX11_clock_r2) ++ wsX110)
def wsX11_told : List Cond := .code yX11_told cX11_told 1 (some .long) :: ([.fieldLink RX11 129 "LoopMixerModel" "told" "J"] ++ wsX110)
def wsJ9_max_7cf53 : List Cond := .code yJ9_max_7cf53 cJ9_max_7cf53 2 (some .int) :: ([])
def wsL_law_r1 : List Cond := [Cond.classLink RL 7 RX10, Cond.instantiable RX10 9, Cond.initialized RX10, Cond.classLink RL 10 RX11, Cond.instantiable RX11 21, Cond.initialized RX11, Cond.constantLong RL 27 (4294967295), Cond.methodLink RL 9 yX10_init, Cond.instanceMethod yX10_init, Cond.code yX10_init cX10_init 1 none, Cond.methodLink RX10 1 objectInit, Cond.instanceMethod objectInit, Cond.code objectInit ⟨#[0xb1]⟩ 1 none, Cond.classLink RX10 9 RX9, Cond.fieldLink RX10 11 "LoopMixer" "tracks" "[LLoopMixer$Row;", Cond.fieldLink RX10 15 "LoopMixer" "curves" "[LLoopMixer$Row;", Cond.classLink RX10 18 RX2, Cond.fieldLink RX10 20 "LoopMixer" "effects" "[LLoopMixer$Effect;", Cond.classLink RX10 24 RX8, Cond.fieldLink RX10 26 "LoopMixer" "racks" "[LLoopMixer$Rack;", Cond.classLink RX10 30 RX6, Cond.fieldLink RX10 32 "LoopMixer" "heads" "[LLoopMixer$Head;", Cond.arrayClass .float, Cond.fieldLink RX10 36 "LoopMixer" "sums" "[F"]
def wsL_law_r2 : List Cond := [Cond.methodLink RL 12 yX11_init, Cond.instanceMethod yX11_init, Cond.code yX11_init cX11_init 1 none, Cond.methodLink RX11 3 objectInit, Cond.arrayClass .int, Cond.fieldLink RX11 9 "LoopMixerModel" "sizes" "[I", Cond.arrayClass .double, Cond.fieldLink RX11 15 "LoopMixerModel" "items" "[D", Cond.fieldLink RX11 19 "LoopMixerModel" "rowOf" "[I", Cond.fieldLink RX11 22 "LoopMixerModel" "kinds" "[I", Cond.fieldLink RX11 25 "LoopMixerModel" "amounts" "[D", Cond.fieldLink RX11 28 "LoopMixerModel" "effectOf" "[I", Cond.fieldLink RX11 31 "LoopMixerModel" "rackOf" "[I", Cond.fieldLink RX11 34 "LoopMixerModel" "hooks" "[I", Cond.arrayClass .boolean, Cond.fieldLink RX11 37 "LoopMixerModel" "isSet" "[Z", Cond.fieldLink RX11 41 "LoopMixerModel" "track" "[I", Cond.fieldLink RX11 44 "LoopMixerModel" "curve" "[I", Cond.fieldLink RX11 47 "LoopMixerModel" "rack" "[I", Cond.fieldLink RX11 50 "LoopMixerModel" "rate" "[D", Cond.fieldLink RX11 53 "LoopMixerModel" "place" "[D", Cond.arrayClass .long, Cond.fieldLink RX11 56 "LoopMixerModel" "steps" "[J", Cond.fieldLink RX11 60 "LoopMixerModel" "mix" "[D"]
def wsL_law_r3 : List Cond := [Cond.methodLink RL 13 yX10_row, Cond.instanceMethod yX10_row, Cond.selects RX10 yX10_row yX10_row, Cond.code yX10_row cX10_row 4 (some .int), Cond.classLink RX10 44 RX1, Cond.instantiable RX1 1, Cond.initialized RX1, Cond.classLink RX10 49 RX3, Cond.instantiable RX3 1, Cond.initialized RX3, Cond.methodLink RX10 40 yX10_isBelow, Cond.static yX10_isBelow, Cond.code yX10_isBelow cX10_isBelow 2 (some .boolean), Cond.methodLink RX10 46 yX1_init, Cond.instanceMethod yX1_init, Cond.code yX1_init cX1_init 2 none, Cond.fieldLink RX1 7 "LoopMixer$DoubleRow" "items" "[D", Cond.instanceMethod yX9_init, Cond.initialized RX9, Cond.code yX9_init cX9_init 1 none, Cond.methodLink RX9 1 objectInit, Cond.methodLink RX10 51 yX3_init, Cond.instanceMethod yX3_init, Cond.code yX3_init cX3_init 2 none]
def wsL_law_r4 : List Cond := [Cond.fieldLink RX3 7 "LoopMixer$FloatRow" "items" "[F", Cond.methodLink RL 17 yX11_row, Cond.instanceMethod yX11_row, Cond.selects RX11 yX11_row yX11_row, Cond.code yX11_row cX11_row 5 (some .int), Cond.fieldLink RX11 97 "LoopMixerModel" "rows" "I", Cond.methodLink RX11 93 yX11_in, Cond.static yX11_in, Cond.code yX11_in cX11_in 3 (some .boolean), Cond.methodLink RX11 101 yX11_slotOf, Cond.static yX11_slotOf, Cond.code yX11_slotOf cX11_slotOf 2 (some .int), Cond.methodLink RL 18 yX10_share, Cond.instanceMethod yX10_share, Cond.selects RX10 yX10_share yX10_share, Cond.code yX10_share cX10_share 5 (some .int), Cond.methodLink RX10 52 yX10_rowsOf, Cond.instanceMethod yX10_rowsOf, Cond.selects RX10 yX10_rowsOf yX10_rowsOf, Cond.code yX10_rowsOf cX10_rowsOf 2 (some (.array (.object "LoopMixer$Row"))), Cond.methodLink RL 21 yX11_share, Cond.instanceMethod yX11_share, Cond.selects RX11 yX11_share yX11_share, Cond.code yX11_share cX11_share 4 (some .int)]
def wsL_law_r5 : List Cond := [Cond.methodLink RL 22 yX10_drop, Cond.instanceMethod yX10_drop, Cond.selects RX10 yX10_drop yX10_drop, Cond.code yX10_drop cX10_drop 5 (some .int), Cond.methodLink RL 26 yX11_drop, Cond.instanceMethod yX11_drop, Cond.selects RX11 yX11_drop yX11_drop, Cond.code yX11_drop cX11_drop 4 (some .int), Cond.methodLink RL 29 yX10_set, Cond.instanceMethod yX10_set, Cond.selects RX10 yX10_set yX10_set, Cond.code yX10_set cX10_set 8 (some .int), Cond.methodLink RX10 56 yX7_isNumber, Cond.static yX7_isNumber, Cond.initialized RX7, Cond.code yX7_isNumber cX7_isNumber 3 (some .boolean), Cond.methodLink RX7 7 yX7_exponentField, Cond.static yX7_exponentField, Cond.code yX7_exponentField cX7_exponentField 3 (some .int), Cond.methodLink RX10 62 yX10_itemFailure, Cond.static yX10_itemFailure, Cond.code yX10_itemFailure cX10_itemFailure 2 (some .int), Cond.methodLink RX10 149 ⟨"LoopMixer$Row", "size", "()I"⟩, Cond.sameMethod "LoopMixer$Row" "LoopMixer$Row" "size" "()I"]
def wsL_law_r6 : List Cond := [Cond.selects RX1 ⟨"LoopMixer$Row", "size", "()I"⟩ yX1_size, Cond.instanceMethod yX1_size, Cond.code yX1_size cX1_size 1 (some .int), Cond.selects RX3 ⟨"LoopMixer$Row", "size", "()I"⟩ yX3_size, Cond.instanceMethod yX3_size, Cond.code yX3_size cX3_size 1 (some .int), Cond.methodLink RX10 66 yX10_toldFailure, Cond.static yX10_toldFailure, Cond.code yX10_toldFailure cX10_toldFailure 1 (some .int), Cond.methodLink RX10 70 yX7_fromBits, Cond.static yX7_fromBits, Cond.code yX7_fromBits cX7_fromBits 14 (some .double), Cond.methodLink RX7 13 Lib.Math.max.name, Cond.static Lib.Math.max.name, Cond.initialized "java/lang/Math", Cond.code Lib.Math.max.name Lib.Math.max.code 2 (some .int), Cond.methodLink RX7 19 yX7_timesPowerOfTwo, Cond.static yX7_timesPowerOfTwo, Cond.code yX7_timesPowerOfTwo cX7_timesPowerOfTwo 9 (some .double), Cond.methodLink RX10 74 ⟨"LoopMixer$Row", "put", "(ID)V"⟩, Cond.sameMethod "LoopMixer$Row" "LoopMixer$Row" "put" "(ID)V", Cond.selects RX1 ⟨"LoopMixer$Row", "put", "(ID)V"⟩ yX1_put, Cond.instanceMethod yX1_put, Cond.code yX1_put cX1_put 4 none]
def wsL_law_r7 : List Cond := [Cond.selects RX3 ⟨"LoopMixer$Row", "put", "(ID)V"⟩ yX3_put, Cond.instanceMethod yX3_put, Cond.code yX3_put cX3_put 4 none, Cond.methodLink RL 33 yX11_set, Cond.instanceMethod yX11_set, Cond.selects RX11 yX11_set yX11_set, Cond.code yX11_set cX11_set 7 (some .int), Cond.methodLink RX11 105 yX11_isFine, Cond.static yX11_isFine, Cond.code yX11_isFine cX11_isFine 3 (some .boolean), Cond.constantLong RX11 63 (9223372036854775807), Cond.constantLong RX11 65 (9218868437227405312), Cond.constant RX11 67 (2147483647), Cond.constant RX11 68 (2139095040), Cond.methodLink RX11 109 yX11_asked, Cond.instanceMethod yX11_asked, Cond.selects RX11 yX11_asked yX11_asked, Cond.code yX11_asked cX11_asked 5 (some .int), Cond.methodLink RX11 113 yX11_fails, Cond.static yX11_fails, Cond.code yX11_fails cX11_fails 1 (some .int), Cond.methodLink RX11 117 yX11_number, Cond.static yX11_number, Cond.code yX11_number cX11_number 3 (some .double)]
def wsL_law_r8 : List Cond := [Cond.methodLink RX11 69 ⟨"java/lang/Double", "longBitsToDouble", "(J)D"⟩, Cond.native ⟨"java/lang/Double", "longBitsToDouble", "(J)D"⟩, Cond.static ⟨"java/lang/Double", "longBitsToDouble", "(J)D"⟩, Cond.initialized "java/lang/Double", Cond.methodLink RX11 75 ⟨"java/lang/Float", "intBitsToFloat", "(I)F"⟩, Cond.native ⟨"java/lang/Float", "intBitsToFloat", "(I)F"⟩, Cond.static ⟨"java/lang/Float", "intBitsToFloat", "(I)F"⟩, Cond.initialized "java/lang/Float", Cond.methodLink RL 34 yX10_get, Cond.instanceMethod yX10_get, Cond.selects RX10 yX10_get yX10_get, Cond.code yX10_get cX10_get 6 (some .int), Cond.methodLink RX10 78 ⟨"LoopMixer$Row", "item", "(I)D"⟩, Cond.sameMethod "LoopMixer$Row" "LoopMixer$Row" "item" "(I)D", Cond.selects RX1 ⟨"LoopMixer$Row", "item", "(I)D"⟩ yX1_item, Cond.instanceMethod yX1_item, Cond.code yX1_item cX1_item 2 (some .double), Cond.selects RX3 ⟨"LoopMixer$Row", "item", "(I)D"⟩ yX3_item, Cond.instanceMethod yX3_item, Cond.code yX3_item cX3_item 2 (some .double), Cond.methodLink RX10 82 yX7_toBits, Cond.static yX7_toBits, Cond.code yX7_toBits cX7_toBits 13 (some .long), Cond.constantDouble RX7 27 (4611686018427387904)]
def wsL_law_r9 : List Cond := [Cond.constantLong RX7 33 (-1), Cond.methodLink RX7 23 yX7_sizeOf, Cond.static yX7_sizeOf, Cond.code yX7_sizeOf cX7_sizeOf 2 (some .double), Cond.methodLink RX7 29 yX7_isNegative, Cond.static yX7_isNegative, Cond.code yX7_isNegative cX7_isNegative 2 (some .boolean), Cond.methodLink RX10 86 yX10_tell, Cond.instanceMethod yX10_tell, Cond.selects RX10 yX10_tell yX10_tell, Cond.code yX10_tell cX10_tell 3 (some .int), Cond.fieldLink RX10 146 "LoopMixer" "latest" "J", Cond.methodLink RL 37 yX11_get, Cond.instanceMethod yX11_get, Cond.selects RX11 yX11_get yX11_get, Cond.code yX11_get cX11_get 5 (some .int), Cond.fieldLink RX11 129 "LoopMixerModel" "told" "J", Cond.methodLink RX11 121 yX11_item, Cond.instanceMethod yX11_item, Cond.selects RX11 yX11_item yX11_item, Cond.code yX11_item cX11_item 4 (some .double), Cond.methodLink RX11 125 yX11_bitsOf, Cond.static yX11_bitsOf, Cond.code yX11_bitsOf cX11_bitsOf 3 (some .long)]
def wsL_law_r10 : List Cond := [Cond.methodLink RX11 79 yJxe99ae_doubleToLongBits_ccdee, Cond.static yJxe99ae_doubleToLongBits_ccdee, Cond.initialized RJxe99ae, Cond.code yJxe99ae_doubleToLongBits_ccdee cJxe99ae_doubleToLongBits_ccdee 2 (some .long), Cond.methodLink RJxe99ae 134 ⟨"java/lang/Double", "doubleToRawLongBits", "(D)J"⟩, Cond.native ⟨"java/lang/Double", "doubleToRawLongBits", "(D)J"⟩, Cond.static ⟨"java/lang/Double", "doubleToRawLongBits", "(D)J"⟩, Cond.constantLong RJxe99ae 137 (9221120237041090560), Cond.methodLink RJxe99ae 122 yJxe99ae_isNaN_b9ae7, Cond.static yJxe99ae_isNaN_b9ae7, Cond.code yJxe99ae_isNaN_b9ae7 cJxe99ae_isNaN_b9ae7 2 (some .boolean), Cond.methodLink RX11 83 yJxf58ca_floatToIntBits_5c35a, Cond.static yJxf58ca_floatToIntBits_5c35a, Cond.initialized RJxf58ca, Cond.code yJxf58ca_floatToIntBits_5c35a cJxf58ca_floatToIntBits_5c35a 1 (some .int), Cond.methodLink RJxf58ca 74 ⟨"java/lang/Float", "floatToRawIntBits", "(F)I"⟩, Cond.native ⟨"java/lang/Float", "floatToRawIntBits", "(F)I"⟩, Cond.static ⟨"java/lang/Float", "floatToRawIntBits", "(F)I"⟩, Cond.constant RJxf58ca 77 (2143289344), Cond.methodLink RJxf58ca 59 yJxf58ca_isNaN_12338, Cond.static yJxf58ca_isNaN_12338, Cond.code yJxf58ca_isNaN_12338 cJxf58ca_isNaN_12338 1 (some .boolean), Cond.methodLink RL 38 yX10_wrap, Cond.instanceMethod yX10_wrap]
def wsL_law_r11 : List Cond := [Cond.selects RX10 yX10_wrap yX10_wrap, Cond.code yX10_wrap cX10_wrap 9 (some .int), Cond.methodLink RX10 90 yX7_rest, Cond.static yX7_rest, Cond.code yX7_rest cX7_rest 11 (some .double), Cond.methodLink RX7 36 yX7_greatestPart, Cond.static yX7_greatestPart, Cond.code yX7_greatestPart cX7_greatestPart 10 (some .double), Cond.methodLink RL 42 yX11_wrap, Cond.instanceMethod yX11_wrap, Cond.selects RX11 yX11_wrap yX11_wrap, Cond.code yX11_wrap cX11_wrap 8 (some .int), Cond.methodLink RL 43 yX10_effect, Cond.instanceMethod yX10_effect, Cond.selects RX10 yX10_effect yX10_effect, Cond.code yX10_effect cX10_effect 5 (some .int), Cond.constant RX10 94 (1000000), Cond.methodLink RX10 95 yX10_isNumberUpTo, Cond.static yX10_isNumberUpTo, Cond.code yX10_isNumberUpTo cX10_isNumberUpTo 5 (some .boolean), Cond.methodLink RX10 99 yX10_newEffect, Cond.static yX10_newEffect, Cond.code yX10_newEffect cX10_newEffect 3 (some (.object "LoopMixer$Effect")), Cond.classLink RX10 157 RX5]
def wsL_law_r12 : List Cond := [Cond.instantiable RX5 1, Cond.initialized RX5, Cond.classLink RX10 162 RX4, Cond.instantiable RX4 1, Cond.initialized RX4, Cond.classLink RX10 165 RX0, Cond.instantiable RX0 1, Cond.initialized RX0, Cond.methodLink RX10 159 yX5_init, Cond.instanceMethod yX5_init, Cond.code yX5_init cX5_init 3 none, Cond.methodLink RX5 3 yX2_init, Cond.instanceMethod yX2_init, Cond.initialized RX2, Cond.code yX2_init cX2_init 3 none, Cond.methodLink RX2 1 objectInit, Cond.fieldLink RX2 7 "LoopMixer$Effect" "amount" "D", Cond.methodLink RX10 164 yX4_init, Cond.instanceMethod yX4_init, Cond.code yX4_init cX4_init 3 none, Cond.methodLink RX4 3 yX5_init, Cond.methodLink RX10 167 yX0_init, Cond.instanceMethod yX0_init, Cond.code yX0_init cX0_init 3 none]
def wsL_law_r13 : List Cond := [Cond.methodLink RX0 3 yX2_init, Cond.methodLink RL 47 yX11_effect, Cond.instanceMethod yX11_effect, Cond.selects RX11 yX11_effect yX11_effect, Cond.code yX11_effect cX11_effect 7 (some .int), Cond.constantDouble RX11 133 (13920209183539462144), Cond.constantDouble RX11 135 (4696837146684686336), Cond.fieldLink RX11 137 "LoopMixerModel" "effects" "I", Cond.methodLink RL 48 yX10_make, Cond.instanceMethod yX10_make, Cond.selects RX10 yX10_make yX10_make, Cond.code yX10_make cX10_make 6 (some .int), Cond.methodLink RX10 103 ⟨"LoopMixer$Effect", "heldFrom", "(F)F"⟩, Cond.sameMethod "LoopMixer$Effect" "LoopMixer$Effect" "heldFrom" "(F)F", Cond.selects RX0 ⟨"LoopMixer$Effect", "heldFrom", "(F)F"⟩ yX2_heldFrom, Cond.instanceMethod yX2_heldFrom, Cond.code yX2_heldFrom cX2_heldFrom 2 (some .float), Cond.methodLink RX2 13 ⟨"LoopMixer$Effect", "madeFrom", "(D)D"⟩, Cond.sameMethod "LoopMixer$Effect" "LoopMixer$Effect" "madeFrom" "(D)D", Cond.selects RX0 ⟨"LoopMixer$Effect", "madeFrom", "(D)D"⟩ yX0_madeFrom, Cond.instanceMethod yX0_madeFrom, Cond.code yX0_madeFrom cX0_madeFrom 5 (some .double), Cond.fieldLink RX0 9 "LoopMixer$Crush" "amount" "D", Cond.sameField "LoopMixer$Crush" "LoopMixer$Effect" "amount" "D"]
def wsL_law_r14 : List Cond := [Cond.methodLink RX0 15 Lib.Math.max.name, Cond.selects RX4 ⟨"LoopMixer$Effect", "madeFrom", "(D)D"⟩ yX4_madeFrom, Cond.instanceMethod yX4_madeFrom, Cond.code yX4_madeFrom cX4_madeFrom 5 (some .double), Cond.constantDouble RX4 17 (4611686018427387904), Cond.constantDouble RX4 25 (13830554455654793216), Cond.constantDouble RX4 27 (13835058055282163712), Cond.methodLink RX4 13 yX5_madeFrom, Cond.sameMethod "LoopMixer$Gain" "LoopMixer$Gain" "madeFrom" "(D)D", Cond.superclass RX4 RX5, Cond.instanceMethod yX5_madeFrom, Cond.code yX5_madeFrom cX5_madeFrom 3 (some .double), Cond.fieldLink RX5 9 "LoopMixer$Gain" "amount" "D", Cond.sameField "LoopMixer$Gain" "LoopMixer$Effect" "amount" "D", Cond.methodLink RX4 19 yX7_rest, Cond.selects RX5 ⟨"LoopMixer$Effect", "madeFrom", "(D)D"⟩ yX5_madeFrom, Cond.methodLink RX2 17 yX7_held, Cond.static yX7_held, Cond.code yX7_held cX7_held 3 (some .float), Cond.constantFloat RX7 35 (2139095039), Cond.selects RX4 ⟨"LoopMixer$Effect", "heldFrom", "(F)F"⟩ yX2_heldFrom, Cond.selects RX5 ⟨"LoopMixer$Effect", "heldFrom", "(F)F"⟩ yX2_heldFrom, Cond.methodLink RL 52 yX11_make, Cond.instanceMethod yX11_make]
def wsL_law_r15 : List Cond := [Cond.selects RX11 yX11_make yX11_make, Cond.code yX11_make cX11_make 4 (some .int), Cond.methodLink RX11 150 yX11_made, Cond.instanceMethod yX11_made, Cond.selects RX11 yX11_made yX11_made, Cond.code yX11_made cX11_made 8 (some .double), Cond.constantDouble RX11 144 (4611686018427387904), Cond.constantDouble RX11 146 (13830554455654793216), Cond.constantDouble RX11 148 (13835058055282163712), Cond.methodLink RX11 140 yX11_held, Cond.static yX11_held, Cond.code yX11_held cX11_held 3 (some .double), Cond.constantFloat RX11 87 (2139095039), Cond.constantDouble RX11 88 (5183643170566569984), Cond.constantFloat RX11 90 (4286578687), Cond.constantDouble RX11 91 (14407015207421345792), Cond.methodLink RL 53 yX10_rack, Cond.instanceMethod yX10_rack, Cond.selects RX10 yX10_rack yX10_rack, Cond.code yX10_rack cX10_rack 3 (some .int), Cond.instantiable RX8 2, Cond.initialized RX8, Cond.methodLink RX10 107 yX8_init, Cond.instanceMethod yX8_init]
def wsL_law_r16 : List Cond := [Cond.code yX8_init cX8_init 2 none, Cond.methodLink RX8 3 objectInit, Cond.fieldLink RX8 9 "LoopMixer$Rack" "kind" "I", Cond.classLink RX8 15 RX2, Cond.fieldLink RX8 17 "LoopMixer$Rack" "places" "[LLoopMixer$Effect;", Cond.methodLink RL 57 yX11_rack, Cond.instanceMethod yX11_rack, Cond.selects RX11 yX11_rack yX11_rack, Cond.code yX11_rack cX11_rack 4 (some .int), Cond.methodLink RL 58 yX10_hang, Cond.instanceMethod yX10_hang, Cond.selects RX10 yX10_hang yX10_hang, Cond.code yX10_hang cX10_hang 6 (some .int), Cond.methodLink RX10 108 yX10_placeFailure, Cond.static yX10_placeFailure, Cond.code yX10_placeFailure cX10_placeFailure 2 (some .int), Cond.methodLink RX10 116 yX10_isOf, Cond.static yX10_isOf, Cond.code yX10_isOf cX10_isOf 2 (some .boolean), Cond.methodLink RX10 153 ⟨"LoopMixer$Effect", "hasKind", "(I)Z"⟩, Cond.sameMethod "LoopMixer$Effect" "LoopMixer$Effect" "hasKind" "(I)Z", Cond.selects RX0 ⟨"LoopMixer$Effect", "hasKind", "(I)Z"⟩ yX0_hasKind, Cond.instanceMethod yX0_hasKind, Cond.code yX0_hasKind cX0_hasKind 2 (some .boolean)]
def wsL_law_r17 : List Cond := [Cond.selects RX4 ⟨"LoopMixer$Effect", "hasKind", "(I)Z"⟩ yX4_hasKind, Cond.instanceMethod yX4_hasKind, Cond.code yX4_hasKind cX4_hasKind 2 (some .boolean), Cond.methodLink RX4 9 yX5_hasKind, Cond.sameMethod "LoopMixer$Gain" "LoopMixer$Gain" "hasKind" "(I)Z", Cond.instanceMethod yX5_hasKind, Cond.code yX5_hasKind cX5_hasKind 2 (some .boolean), Cond.selects RX5 ⟨"LoopMixer$Effect", "hasKind", "(I)Z"⟩ yX5_hasKind, Cond.methodLink RL 62 yX11_hang, Cond.instanceMethod yX11_hang, Cond.selects RX11 yX11_hang yX11_hang, Cond.code yX11_hang cX11_hang 5 (some .int), Cond.methodLink RX11 154 yX11_fits, Cond.static yX11_fits, Cond.code yX11_fits cX11_fits 2 (some .boolean), Cond.methodLink RL 63 yX10_take, Cond.instanceMethod yX10_take, Cond.selects RX10 yX10_take yX10_take, Cond.code yX10_take cX10_take 8 (some .int), Cond.methodLink RL 67 yX11_take, Cond.instanceMethod yX11_take, Cond.selects RX11 yX11_take yX11_take, Cond.code yX11_take cX11_take 6 (some .int), Cond.methodLink RL 68 yX10_head]
def wsL_law_r18 : List Cond := [Cond.instanceMethod yX10_head, Cond.selects RX10 yX10_head yX10_head, Cond.code yX10_head cX10_head 7 (some .int), Cond.instantiable RX6 6, Cond.initialized RX6, Cond.methodLink RX10 123 yX6_init, Cond.instanceMethod yX6_init, Cond.code yX6_init cX6_init 6 none, Cond.methodLink RX6 1 objectInit, Cond.fieldLink RX6 7 "LoopMixer$Head" "track" "I", Cond.fieldLink RX6 13 "LoopMixer$Head" "curve" "I", Cond.fieldLink RX6 16 "LoopMixer$Head" "rack" "I", Cond.fieldLink RX6 19 "LoopMixer$Head" "rate" "D", Cond.methodLink RL 72 yX11_head, Cond.instanceMethod yX11_head, Cond.selects RX11 yX11_head yX11_head, Cond.code yX11_head cX11_head 9 (some .int), Cond.constantDouble RX11 158 (13857576053419016192), Cond.constantDouble RX11 160 (4634204016564240384), Cond.methodLink RL 73 yX10_play, Cond.instanceMethod yX10_play, Cond.selects RX10 yX10_play yX10_play, Cond.code yX10_play cX10_play 5 (some .int), Cond.fieldLink RX10 126 "LoopMixer" "ending" "I"]
def wsL_law_r19 : List Cond := [Cond.methodLink RX10 129 yX10_step, Cond.instanceMethod yX10_step, Cond.selects RX10 yX10_step yX10_step, Cond.code yX10_step cX10_step 8 (some .int), Cond.constantLong RX10 186 (8), Cond.methodLink RX10 177 yX10_stepFailure, Cond.static yX10_stepFailure, Cond.code yX10_stepFailure cX10_stepFailure 5 (some .int), Cond.methodLink RX10 191 yX8_hasBarePlace, Cond.instanceMethod yX8_hasBarePlace, Cond.selects RX8 yX8_hasBarePlace yX8_hasBarePlace, Cond.code yX8_hasBarePlace cX8_hasBarePlace 2 (some .boolean), Cond.methodLink RX10 181 yX7_held, Cond.methodLink RX10 185 yX8_heldFrom, Cond.instanceMethod yX8_heldFrom, Cond.selects RX8 yX8_heldFrom yX8_heldFrom, Cond.code yX8_heldFrom cX8_heldFrom 5 (some .float), Cond.methodLink RX8 21 ⟨"LoopMixer$Effect", "heldFrom", "(F)F"⟩, Cond.methodLink RX10 188 yX6_moveOn, Cond.instanceMethod yX6_moveOn, Cond.selects RX6 yX6_moveOn yX6_moveOn, Cond.code yX6_moveOn cX6_moveOn 4 none, Cond.fieldLink RX6 23 "LoopMixer$Head" "place" "D", Cond.fieldLink RX6 32 "LoopMixer$Head" "steps" "J"]
def wsL_law_r20 : List Cond := [Cond.methodLink RX6 26 yX7_rest, Cond.methodLink RL 76 yX11_play, Cond.instanceMethod yX11_play, Cond.selects RX11 yX11_play yX11_play, Cond.code yX11_play cX11_play 4 (some .int), Cond.fieldLink RX11 164 "LoopMixerModel" "failure" "I", Cond.methodLink RX11 167 yX11_step, Cond.instanceMethod yX11_step, Cond.selects RX11 yX11_step yX11_step, Cond.code yX11_step cX11_step 11 (some .int), Cond.constantLong RX11 162 (8), Cond.methodLink RL 77 yX10_failed, Cond.instanceMethod yX10_failed, Cond.selects RX10 yX10_failed yX10_failed, Cond.code yX10_failed cX10_failed 1 (some .int), Cond.methodLink RL 81 yX11_failed, Cond.instanceMethod yX11_failed, Cond.selects RX11 yX11_failed yX11_failed, Cond.code yX11_failed cX11_failed 1 (some .int), Cond.methodLink RL 82 yX10_mix, Cond.instanceMethod yX10_mix, Cond.selects RX10 yX10_mix yX10_mix, Cond.code yX10_mix cX10_mix 5 (some .int), Cond.constantDouble RX10 133 (4674736138332667904)]
def wsL_law_r21 : List Cond := [Cond.methodLink RL 85 yX11_mix, Cond.instanceMethod yX11_mix, Cond.selects RX11 yX11_mix yX11_mix, Cond.code yX11_mix cX11_mix 6 (some .int), Cond.constantDouble RX11 170 (4674736138332667904), Cond.methodLink RL 86 yX10_hush, Cond.instanceMethod yX10_hush, Cond.selects RX10 yX10_hush yX10_hush, Cond.code yX10_hush cX10_hush 2 (some .int), Cond.methodLink RL 89 yX11_hush, Cond.instanceMethod yX11_hush, Cond.selects RX11 yX11_hush yX11_hush, Cond.code yX11_hush cX11_hush 2 (some .int), Cond.methodLink RL 90 yX10_at, Cond.instanceMethod yX10_at, Cond.selects RX10 yX10_at yX10_at, Cond.code yX10_at cX10_at 4 (some .int), Cond.methodLink RL 93 yX11_at, Cond.instanceMethod yX11_at, Cond.selects RX11 yX11_at yX11_at, Cond.code yX11_at cX11_at 3 (some .int), Cond.methodLink RL 94 yX10_clock, Cond.instanceMethod yX10_clock, Cond.selects RX10 yX10_clock yX10_clock]
def wsL_law_r22 : List Cond := [Cond.code yX10_clock cX10_clock 4 (some .int), Cond.fieldLink RX10 143 "LoopMixer" "time" "J", Cond.methodLink RL 98 yX11_clock, Cond.instanceMethod yX11_clock, Cond.selects RX11 yX11_clock yX11_clock, Cond.code yX11_clock cX11_clock 4 (some .int), Cond.fieldLink RX11 172 "LoopMixerModel" "clock" "J", Cond.methodLink RL 99 yX10_told, Cond.instanceMethod yX10_told, Cond.selects RX10 yX10_told yX10_told, Cond.code yX10_told cX10_told 1 (some .long), Cond.methodLink RL 103 yX11_told, Cond.instanceMethod yX11_told, Cond.selects RX11 yX11_told yX11_told, Cond.code yX11_told cX11_told 1 (some .long)]
def wsL_law : List Cond := (wsL_law_r1 ++ (wsL_law_r2 ++ (wsL_law_r3 ++ (wsL_law_r4 ++ (wsL_law_r5 ++ (wsL_law_r6 ++ (wsL_law_r7 ++ (wsL_law_r8 ++ (wsL_law_r9 ++ (wsL_law_r10 ++ (wsL_law_r11 ++ (wsL_law_r12 ++ (wsL_law_r13 ++ (wsL_law_r14 ++ (wsL_law_r15 ++ (wsL_law_r16 ++ (wsL_law_r17 ++ (wsL_law_r18 ++ (wsL_law_r19 ++ (wsL_law_r20 ++ (wsL_law_r21 ++ wsL_law_r22))))))))))))))))))))) ++ wsX100 ++ wsX110 ++ wsX10 ++ wsX30 ++ wsX50 ++ wsX40 ++ wsX00 ++ wsX80 ++ wsX60 ++ ([] : List Cond)
set_option maxRecDepth 20000 in
theorem wsL_law_in : ∀ w ∈ wsL_law, w ∈ lw_tbl := fun w h => (goodIn_p wsL_law [27, 30, 404, 71, 74, 79, 82, 93, 476, 479, 482, 102, 106, 486, 110, 490, 114, 117, 120, 123, 129, 132, 135, 138, 141, 144, 150, 153, 494, 497, 505, 508, 511, 157, 163, 166, 169, 172, 176, 181, 521, 525, 528, 531, 534, 541, 544, 185, 188, 191, 552, 195, 199, 202, 207, 210, 224, 232, 556, 239, 246, 252, 256, 259, 267, 562, 566, 569, 272, 276, 580, 291, 294, 297, 303, 306, 309, 584, 587, 314, 591, 318, 322, 595, 351, 355, 358, 362, 367, 373, 601, 605, 378, 610, 382, 614, 387, 619, 391, 623, 395, 627, 399, 631] (by decide +kernel) (by decide +kernel) w h).1
theorem inlX0 : ∀ w ∈ wsX00, w ∈ wsL_law := fun _ h => List.mem_append_left _ (List.mem_append_left _ (List.mem_append_left _ (List.mem_append_right _ h)))
theorem inX0 : ∀ w ∈ wsX00, w ∈ lw_tbl := fun w h => wsL_law_in w (inlX0 w h)
theorem inlX1 : ∀ w ∈ wsX10, w ∈ wsL_law := fun _ h => List.mem_append_left _ (List.mem_append_left _ (List.mem_append_left _ (List.mem_append_left _ (List.mem_append_left _ (List.mem_append_left _ (List.mem_append_left _ (List.mem_append_right _ h)))))))
theorem inX1 : ∀ w ∈ wsX10, w ∈ lw_tbl := fun w h => wsL_law_in w (inlX1 w h)
theorem inX2 : ∀ w ∈ wsX20, w ∈ lw_tbl := by decide +kernel
theorem inlX3 : ∀ w ∈ wsX30, w ∈ wsL_law := fun _ h => List.mem_append_left _ (List.mem_append_left _ (List.mem_append_left _ (List.mem_append_left _ (List.mem_append_left _ (List.mem_append_left _ (List.mem_append_right _ h))))))
theorem inX3 : ∀ w ∈ wsX30, w ∈ lw_tbl := fun w h => wsL_law_in w (inlX3 w h)
theorem inlX4 : ∀ w ∈ wsX40, w ∈ wsL_law := fun _ h => List.mem_append_left _ (List.mem_append_left _ (List.mem_append_left _ (List.mem_append_left _ (List.mem_append_right _ h))))
theorem inX4 : ∀ w ∈ wsX40, w ∈ lw_tbl := fun w h => wsL_law_in w (inlX4 w h)
theorem inlX5 : ∀ w ∈ wsX50, w ∈ wsL_law := fun _ h => List.mem_append_left _ (List.mem_append_left _ (List.mem_append_left _ (List.mem_append_left _ (List.mem_append_left _ (List.mem_append_right _ h)))))
theorem inX5 : ∀ w ∈ wsX50, w ∈ lw_tbl := fun w h => wsL_law_in w (inlX5 w h)
theorem inlX6 : ∀ w ∈ wsX60, w ∈ wsL_law := fun _ h => List.mem_append_left _ (List.mem_append_right _ h)
theorem inX6 : ∀ w ∈ wsX60, w ∈ lw_tbl := fun w h => wsL_law_in w (inlX6 w h)
theorem inX7 : ∀ w ∈ wsX70, w ∈ lw_tbl := by decide +kernel
theorem inlX8 : ∀ w ∈ wsX80, w ∈ wsL_law := fun _ h => List.mem_append_left _ (List.mem_append_left _ (List.mem_append_right _ h))
theorem inX8 : ∀ w ∈ wsX80, w ∈ lw_tbl := fun w h => wsL_law_in w (inlX8 w h)
theorem inX9 : ∀ w ∈ wsX90, w ∈ lw_tbl := by decide +kernel
theorem inlX10 : ∀ w ∈ wsX100, w ∈ wsL_law := fun _ h => List.mem_append_left _ (List.mem_append_left _ (List.mem_append_left _ (List.mem_append_left _ (List.mem_append_left _ (List.mem_append_left _ (List.mem_append_left _ (List.mem_append_left _ (List.mem_append_left _ (List.mem_append_right _ h)))))))))
theorem inX10 : ∀ w ∈ wsX100, w ∈ lw_tbl := fun w h => wsL_law_in w (inlX10 w h)
theorem inlX11 : ∀ w ∈ wsX110, w ∈ wsL_law := fun _ h => List.mem_append_left _ (List.mem_append_left _ (List.mem_append_left _ (List.mem_append_left _ (List.mem_append_left _ (List.mem_append_left _ (List.mem_append_left _ (List.mem_append_left _ (List.mem_append_right _ h))))))))
theorem inX11 : ∀ w ∈ wsX110, w ∈ lw_tbl := fun w h => wsL_law_in w (inlX11 w h)
theorem inJxe99ae : ∀ w ∈ wsJxe99ae0, w ∈ lw_tbl := by decide +kernel
theorem inJxf58ca : ∀ w ∈ wsJxf58ca0, w ∈ lw_tbl := by decide +kernel
theorem inJ9 : ∀ w ∈ wsJ90, w ∈ lw_tbl := by decide +kernel
set_option maxRecDepth 20000 in
theorem ggX0_init_X2_init : GoodIn wsX0_init wsX2_init := goodIn_r _ [4, 5, 6, 7, 8, 9, 10, 11] (by decide +kernel) (by decide +kernel)
set_option maxRecDepth 20000 in
theorem gX0_init_X2_init : GoodIn wsX0_init (wsX2_init) := ggX0_init_X2_init
theorem dX0_init_0 : decode cX0_init 0 = .ok (.aload_n 0, 1) := by decide +kernel
theorem dX0_init_1 : decode cX0_init 1 = .ok (.dload_n 1, 1) := by decide +kernel
theorem dX0_init_2 : decode cX0_init 2 = .ok (.invokespecial 3, 3) := by decide +kernel
theorem dX0_init_5 : decode cX0_init 5 = .ok (.return_, 1) := by decide +kernel
theorem dX0_hasKind_0 : decode cX0_hasKind 0 = .ok (.iload_n 1, 1) := by decide +kernel
theorem dX0_hasKind_1 : decode cX0_hasKind 1 = .ok (.iconst 2, 1) := by decide +kernel
theorem dX0_hasKind_2 : decode cX0_hasKind 2 = .ok (.if_icmp .ne 7, 3) := by decide +kernel
theorem dX0_hasKind_5 : decode cX0_hasKind 5 = .ok (.iconst 1, 1) := by decide +kernel
theorem dX0_hasKind_6 : decode cX0_hasKind 6 = .ok (.goto 4, 3) := by decide +kernel
theorem dX0_hasKind_9 : decode cX0_hasKind 9 = .ok (.iconst 0, 1) := by decide +kernel
theorem dX0_hasKind_10 : decode cX0_hasKind 10 = .ok (.ireturn, 1) := by decide +kernel
theorem dX0_madeFrom_0 : decode cX0_madeFrom 0 = .ok (.iconst 1, 1) := by decide +kernel
theorem dX0_madeFrom_1 : decode cX0_madeFrom 1 = .ok (.aload_n 0, 1) := by decide +kernel
theorem dX0_madeFrom_2 : decode cX0_madeFrom 2 = .ok (.getfield 9, 3) := by decide +kernel
theorem dX0_madeFrom_5 : decode cX0_madeFrom 5 = .ok (.d2i, 1) := by decide +kernel
theorem dX0_madeFrom_6 : decode cX0_madeFrom 6 = .ok (.invokestatic 15, 3) := by decide +kernel
theorem dX0_madeFrom_9 : decode cX0_madeFrom 9 = .ok (.i2d, 1) := by decide +kernel
theorem dX0_madeFrom_10 : decode cX0_madeFrom 10 = .ok (.dstore_n 3, 1) := by decide +kernel
theorem dX0_madeFrom_11 : decode cX0_madeFrom 11 = .ok (.dload_n 1, 1) := by decide +kernel
theorem dX0_madeFrom_12 : decode cX0_madeFrom 12 = .ok (.dload_n 3, 1) := by decide +kernel
theorem dX0_madeFrom_13 : decode cX0_madeFrom 13 = .ok (.dmul, 1) := by decide +kernel
theorem dX0_madeFrom_14 : decode cX0_madeFrom 14 = .ok (.d2l, 1) := by decide +kernel
theorem dX0_madeFrom_15 : decode cX0_madeFrom 15 = .ok (.l2d, 1) := by decide +kernel
theorem dX0_madeFrom_16 : decode cX0_madeFrom 16 = .ok (.dload_n 3, 1) := by decide +kernel
theorem dX0_madeFrom_17 : decode cX0_madeFrom 17 = .ok (.ddiv, 1) := by decide +kernel
theorem dX0_madeFrom_18 : decode cX0_madeFrom 18 = .ok (.dreturn, 1) := by decide +kernel
set_option maxRecDepth 20000 in
theorem ggX1_init_X9_init : GoodIn wsX1_init wsX9_init := goodIn_r _ [5, 6, 7, 8] (by decide +kernel) (by decide +kernel)
set_option maxRecDepth 20000 in
theorem gX1_init_X9_init_n1 : GoodIn wsX1_init (wsX9_init) := ggX1_init_X9_init
theorem dX1_init_0 : decode cX1_init 0 = .ok (.aload_n 0, 1) := by decide +kernel
theorem dX1_init_1 : decode cX1_init 1 = .ok (.invokespecial 1, 3) := by decide +kernel
theorem dX1_init_4 : decode cX1_init 4 = .ok (.aload_n 0, 1) := by decide +kernel
theorem dX1_init_5 : decode cX1_init 5 = .ok (.iload_n 1, 1) := by decide +kernel
theorem dX1_init_6 : decode cX1_init 6 = .ok (.newarray .double, 2) := by decide +kernel
theorem dX1_init_8 : decode cX1_init 8 = .ok (.putfield 7, 3) := by decide +kernel
theorem dX1_init_11 : decode cX1_init 11 = .ok (.return_, 1) := by decide +kernel
theorem dX1_size_0 : decode cX1_size 0 = .ok (.aload_n 0, 1) := by decide +kernel
theorem dX1_size_1 : decode cX1_size 1 = .ok (.getfield 7, 3) := by decide +kernel
theorem dX1_size_4 : decode cX1_size 4 = .ok (.arraylength, 1) := by decide +kernel
theorem dX1_size_5 : decode cX1_size 5 = .ok (.ireturn, 1) := by decide +kernel
theorem dX1_item_0 : decode cX1_item 0 = .ok (.aload_n 0, 1) := by decide +kernel
theorem dX1_item_1 : decode cX1_item 1 = .ok (.getfield 7, 3) := by decide +kernel
theorem dX1_item_4 : decode cX1_item 4 = .ok (.iload_n 1, 1) := by decide +kernel
theorem dX1_item_5 : decode cX1_item 5 = .ok (.daload, 1) := by decide +kernel
theorem dX1_item_6 : decode cX1_item 6 = .ok (.dreturn, 1) := by decide +kernel
theorem dX1_put_0 : decode cX1_put 0 = .ok (.aload_n 0, 1) := by decide +kernel
theorem dX1_put_1 : decode cX1_put 1 = .ok (.getfield 7, 3) := by decide +kernel
theorem dX1_put_4 : decode cX1_put 4 = .ok (.iload_n 1, 1) := by decide +kernel
theorem dX1_put_5 : decode cX1_put 5 = .ok (.dload_n 2, 1) := by decide +kernel
theorem dX1_put_6 : decode cX1_put 6 = .ok (.dastore, 1) := by decide +kernel
theorem dX1_put_7 : decode cX1_put 7 = .ok (.return_, 1) := by decide +kernel
theorem dX2_init_0 : decode cX2_init 0 = .ok (.aload_n 0, 1) := by decide +kernel
theorem dX2_init_1 : decode cX2_init 1 = .ok (.invokespecial 1, 3) := by decide +kernel
theorem dX2_init_4 : decode cX2_init 4 = .ok (.aload_n 0, 1) := by decide +kernel
theorem dX2_init_5 : decode cX2_init 5 = .ok (.dload_n 1, 1) := by decide +kernel
theorem dX2_init_6 : decode cX2_init 6 = .ok (.putfield 7, 3) := by decide +kernel
theorem dX2_init_9 : decode cX2_init 9 = .ok (.return_, 1) := by decide +kernel
set_option maxRecDepth 20000 in
theorem ggX2_heldFrom_X0_madeFrom : GoodIn wsX2_heldFrom wsX0_madeFrom := goodIn_r _ [6, 7, 8, 9, 10, 11, 12, 44, 45, 46] (by decide +kernel) (by decide +kernel)
set_option maxRecDepth 20000 in
theorem gX2_heldFrom_X0_madeFrom_u13X0 : GoodIn wsX2_heldFrom (va_wsU RX2 13 RX0 "LoopMixer$Effect" ⟨"LoopMixer$Effect", "madeFrom", "(D)D"⟩ yX0_madeFrom wsX0_madeFrom) := goodIn_app (goodIn_of _ (by decide +kernel)) ggX2_heldFrom_X0_madeFrom
set_option maxRecDepth 20000 in
theorem ggX2_heldFrom_X4_madeFrom : GoodIn wsX2_heldFrom wsX4_madeFrom := goodIn_r _ [16, 17, 18, 19, 20, 21, 22, 23, 24, 25, 26, 27, 28, 29, 30, 31, 32, 33, 34, 35, 36, 37, 38, 44, 45, 46] (by decide +kernel) (by decide +kernel)
set_option maxRecDepth 20000 in
theorem gX2_heldFrom_X4_madeFrom_u13X4 : GoodIn wsX2_heldFrom (va_wsU RX2 13 RX4 "LoopMixer$Effect" ⟨"LoopMixer$Effect", "madeFrom", "(D)D"⟩ yX4_madeFrom wsX4_madeFrom) := goodIn_app (goodIn_of _ (by decide +kernel)) ggX2_heldFrom_X4_madeFrom
set_option maxRecDepth 20000 in
theorem ggX2_heldFrom_X5_madeFrom : GoodIn wsX2_heldFrom wsX5_madeFrom := goodIn_r _ [25, 26, 27, 44, 45, 46] (by decide +kernel) (by decide +kernel)
set_option maxRecDepth 20000 in
theorem gX2_heldFrom_X5_madeFrom_u13X5 : GoodIn wsX2_heldFrom (va_wsU RX2 13 RX5 "LoopMixer$Effect" ⟨"LoopMixer$Effect", "madeFrom", "(D)D"⟩ yX5_madeFrom wsX5_madeFrom) := goodIn_app (goodIn_of _ (by decide +kernel)) ggX2_heldFrom_X5_madeFrom
set_option maxRecDepth 20000 in
theorem ggX2_heldFrom_X7_held : GoodIn wsX2_heldFrom wsX7_held := goodIn_r _ [42, 43] (by decide +kernel) (by decide +kernel)
set_option maxRecDepth 20000 in
theorem gX2_heldFrom_X7_held : GoodIn wsX2_heldFrom (va_wsS RX2 17 yX7_held wsX7_held) := goodIn_app (goodIn_of _ (by decide +kernel)) ggX2_heldFrom_X7_held
theorem dX2_heldFrom_0 : decode cX2_heldFrom 0 = .ok (.aload_n 0, 1) := by decide +kernel
theorem dX2_heldFrom_1 : decode cX2_heldFrom 1 = .ok (.fload_n 1, 1) := by decide +kernel
theorem dX2_heldFrom_2 : decode cX2_heldFrom 2 = .ok (.f2d, 1) := by decide +kernel
theorem dX2_heldFrom_3 : decode cX2_heldFrom 3 = .ok (.invokevirtual 13, 3) := by decide +kernel
theorem dX2_heldFrom_6 : decode cX2_heldFrom 6 = .ok (.invokestatic 17, 3) := by decide +kernel
theorem dX2_heldFrom_9 : decode cX2_heldFrom 9 = .ok (.freturn, 1) := by decide +kernel
set_option maxRecDepth 20000 in
theorem ggX3_init_X9_init : GoodIn wsX3_init wsX9_init := goodIn_r _ [5, 6, 7, 8] (by decide +kernel) (by decide +kernel)
set_option maxRecDepth 20000 in
theorem gX3_init_X9_init_n1 : GoodIn wsX3_init (wsX9_init) := ggX3_init_X9_init
theorem dX3_init_0 : decode cX3_init 0 = .ok (.aload_n 0, 1) := by decide +kernel
theorem dX3_init_1 : decode cX3_init 1 = .ok (.invokespecial 1, 3) := by decide +kernel
theorem dX3_init_4 : decode cX3_init 4 = .ok (.aload_n 0, 1) := by decide +kernel
theorem dX3_init_5 : decode cX3_init 5 = .ok (.iload_n 1, 1) := by decide +kernel
theorem dX3_init_6 : decode cX3_init 6 = .ok (.newarray .float, 2) := by decide +kernel
theorem dX3_init_8 : decode cX3_init 8 = .ok (.putfield 7, 3) := by decide +kernel
theorem dX3_init_11 : decode cX3_init 11 = .ok (.return_, 1) := by decide +kernel
theorem dX3_size_0 : decode cX3_size 0 = .ok (.aload_n 0, 1) := by decide +kernel
theorem dX3_size_1 : decode cX3_size 1 = .ok (.getfield 7, 3) := by decide +kernel
theorem dX3_size_4 : decode cX3_size 4 = .ok (.arraylength, 1) := by decide +kernel
theorem dX3_size_5 : decode cX3_size 5 = .ok (.ireturn, 1) := by decide +kernel
theorem dX3_item_0 : decode cX3_item 0 = .ok (.aload_n 0, 1) := by decide +kernel
theorem dX3_item_1 : decode cX3_item 1 = .ok (.getfield 7, 3) := by decide +kernel
theorem dX3_item_4 : decode cX3_item 4 = .ok (.iload_n 1, 1) := by decide +kernel
theorem dX3_item_5 : decode cX3_item 5 = .ok (.faload, 1) := by decide +kernel
theorem dX3_item_6 : decode cX3_item 6 = .ok (.f2d, 1) := by decide +kernel
theorem dX3_item_7 : decode cX3_item 7 = .ok (.dreturn, 1) := by decide +kernel
theorem dX3_put_0 : decode cX3_put 0 = .ok (.aload_n 0, 1) := by decide +kernel
theorem dX3_put_1 : decode cX3_put 1 = .ok (.getfield 7, 3) := by decide +kernel
theorem dX3_put_4 : decode cX3_put 4 = .ok (.iload_n 1, 1) := by decide +kernel
theorem dX3_put_5 : decode cX3_put 5 = .ok (.dload_n 2, 1) := by decide +kernel
theorem dX3_put_6 : decode cX3_put 6 = .ok (.d2f, 1) := by decide +kernel
theorem dX3_put_7 : decode cX3_put 7 = .ok (.fastore, 1) := by decide +kernel
theorem dX3_put_8 : decode cX3_put 8 = .ok (.return_, 1) := by decide +kernel
set_option maxRecDepth 20000 in
theorem ggX4_init_X5_init : GoodIn wsX4_init wsX5_init := goodIn_r _ [4, 5, 6, 7, 8, 9, 10, 11, 12, 13, 14, 15] (by decide +kernel) (by decide +kernel)
set_option maxRecDepth 20000 in
theorem gX4_init_X5_init : GoodIn wsX4_init (wsX5_init) := ggX4_init_X5_init
theorem dX4_init_0 : decode cX4_init 0 = .ok (.aload_n 0, 1) := by decide +kernel
theorem dX4_init_1 : decode cX4_init 1 = .ok (.dload_n 1, 1) := by decide +kernel
theorem dX4_init_2 : decode cX4_init 2 = .ok (.invokespecial 3, 3) := by decide +kernel
theorem dX4_init_5 : decode cX4_init 5 = .ok (.return_, 1) := by decide +kernel
set_option maxRecDepth 20000 in
theorem ggX4_hasKind_X5_hasKind : GoodIn wsX4_hasKind wsX5_hasKind := goodIn_r _ [6] (by decide +kernel) (by decide +kernel)
set_option maxRecDepth 20000 in
theorem gX4_hasKind_X5_hasKind_s9 : GoodIn wsX4_hasKind (va_wsSU RX4 9 yX5_hasKind wsX5_hasKind) := goodIn_app (goodIn_of _ (by decide +kernel)) ggX4_hasKind_X5_hasKind
theorem dX4_hasKind_0 : decode cX4_hasKind 0 = .ok (.iload_n 1, 1) := by decide +kernel
theorem dX4_hasKind_1 : decode cX4_hasKind 1 = .ok (.iconst 1, 1) := by decide +kernel
theorem dX4_hasKind_2 : decode cX4_hasKind 2 = .ok (.if_icmp .eq 11, 3) := by decide +kernel
theorem dX4_hasKind_5 : decode cX4_hasKind 5 = .ok (.aload_n 0, 1) := by decide +kernel
theorem dX4_hasKind_6 : decode cX4_hasKind 6 = .ok (.iload_n 1, 1) := by decide +kernel
theorem dX4_hasKind_7 : decode cX4_hasKind 7 = .ok (.invokespecial 9, 3) := by decide +kernel
theorem dX4_hasKind_10 : decode cX4_hasKind 10 = .ok (.ifCond .eq 7, 3) := by decide +kernel
theorem dX4_hasKind_13 : decode cX4_hasKind 13 = .ok (.iconst 1, 1) := by decide +kernel
theorem dX4_hasKind_14 : decode cX4_hasKind 14 = .ok (.goto 4, 3) := by decide +kernel
theorem dX4_hasKind_17 : decode cX4_hasKind 17 = .ok (.iconst 0, 1) := by decide +kernel
theorem dX4_hasKind_18 : decode cX4_hasKind 18 = .ok (.ireturn, 1) := by decide +kernel
set_option maxRecDepth 20000 in
theorem ggX4_madeFrom_X5_madeFrom : GoodIn wsX4_madeFrom wsX5_madeFrom := goodIn_r _ [9, 10, 11, 23, 24, 25] (by decide +kernel) (by decide +kernel)
set_option maxRecDepth 20000 in
theorem gX4_madeFrom_X5_madeFrom_s13 : GoodIn wsX4_madeFrom (va_wsSU RX4 13 yX5_madeFrom wsX5_madeFrom) := goodIn_app (goodIn_of _ (by decide +kernel)) ggX4_madeFrom_X5_madeFrom
set_option maxRecDepth 20000 in
theorem ggX4_madeFrom_X7_rest : GoodIn wsX4_madeFrom wsX7_rest := goodIn_r _ [15, 16, 17, 18, 14, 19, 20, 21, 22] (by decide +kernel) (by decide +kernel)
set_option maxRecDepth 20000 in
theorem gX4_madeFrom_X7_rest : GoodIn wsX4_madeFrom (va_wsS RX4 19 yX7_rest wsX7_rest) := goodIn_app (goodIn_of _ (by decide +kernel)) ggX4_madeFrom_X7_rest
theorem dX4_madeFrom_0 : decode cX4_madeFrom 0 = .ok (.aload_n 0, 1) := by decide +kernel
theorem dX4_madeFrom_1 : decode cX4_madeFrom 1 = .ok (.dload_n 1, 1) := by decide +kernel
theorem dX4_madeFrom_2 : decode cX4_madeFrom 2 = .ok (.invokespecial 13, 3) := by decide +kernel
theorem dX4_madeFrom_5 : decode cX4_madeFrom 5 = .ok (.ldc2_w 17, 3) := by decide +kernel
theorem dX4_madeFrom_8 : decode cX4_madeFrom 8 = .ok (.invokestatic 19, 3) := by decide +kernel
theorem dX4_madeFrom_11 : decode cX4_madeFrom 11 = .ok (.dstore_n 3, 1) := by decide +kernel
theorem dX4_madeFrom_12 : decode cX4_madeFrom 12 = .ok (.dload_n 3, 1) := by decide +kernel
theorem dX4_madeFrom_13 : decode cX4_madeFrom 13 = .ok (.dconst 1, 1) := by decide +kernel
theorem dX4_madeFrom_14 : decode cX4_madeFrom 14 = .ok (.dcmp .l, 1) := by decide +kernel
theorem dX4_madeFrom_15 : decode cX4_madeFrom 15 = .ok (.ifCond .le 9, 3) := by decide +kernel
theorem dX4_madeFrom_18 : decode cX4_madeFrom 18 = .ok (.ldc2_w 17, 3) := by decide +kernel
theorem dX4_madeFrom_21 : decode cX4_madeFrom 21 = .ok (.dload_n 3, 1) := by decide +kernel
theorem dX4_madeFrom_22 : decode cX4_madeFrom 22 = .ok (.dsub, 1) := by decide +kernel
theorem dX4_madeFrom_23 : decode cX4_madeFrom 23 = .ok (.dreturn, 1) := by decide +kernel
theorem dX4_madeFrom_24 : decode cX4_madeFrom 24 = .ok (.dload_n 3, 1) := by decide +kernel
theorem dX4_madeFrom_25 : decode cX4_madeFrom 25 = .ok (.ldc2_w 25, 3) := by decide +kernel
theorem dX4_madeFrom_28 : decode cX4_madeFrom 28 = .ok (.dcmp .g, 1) := by decide +kernel
theorem dX4_madeFrom_29 : decode cX4_madeFrom 29 = .ok (.ifCond .ge 11, 3) := by decide +kernel
theorem dX4_madeFrom_32 : decode cX4_madeFrom 32 = .ok (.ldc2_w 27, 3) := by decide +kernel
theorem dX4_madeFrom_35 : decode cX4_madeFrom 35 = .ok (.dload_n 3, 1) := by decide +kernel
theorem dX4_madeFrom_36 : decode cX4_madeFrom 36 = .ok (.dsub, 1) := by decide +kernel
theorem dX4_madeFrom_37 : decode cX4_madeFrom 37 = .ok (.goto 4, 3) := by decide +kernel
theorem dX4_madeFrom_40 : decode cX4_madeFrom 40 = .ok (.dload_n 3, 1) := by decide +kernel
theorem dX4_madeFrom_41 : decode cX4_madeFrom 41 = .ok (.dreturn, 1) := by decide +kernel
set_option maxRecDepth 20000 in
theorem ggX5_init_X2_init : GoodIn wsX5_init wsX2_init := goodIn_r _ [4, 5, 6, 7, 8, 9, 10, 11] (by decide +kernel) (by decide +kernel)
set_option maxRecDepth 20000 in
theorem gX5_init_X2_init : GoodIn wsX5_init (wsX2_init) := ggX5_init_X2_init
theorem dX5_init_0 : decode cX5_init 0 = .ok (.aload_n 0, 1) := by decide +kernel
theorem dX5_init_1 : decode cX5_init 1 = .ok (.dload_n 1, 1) := by decide +kernel
theorem dX5_init_2 : decode cX5_init 2 = .ok (.invokespecial 3, 3) := by decide +kernel
theorem dX5_init_5 : decode cX5_init 5 = .ok (.return_, 1) := by decide +kernel
theorem dX5_hasKind_0 : decode cX5_hasKind 0 = .ok (.iload_n 1, 1) := by decide +kernel
theorem dX5_hasKind_1 : decode cX5_hasKind 1 = .ok (.ifCond .ne 7, 3) := by decide +kernel
theorem dX5_hasKind_4 : decode cX5_hasKind 4 = .ok (.iconst 1, 1) := by decide +kernel
theorem dX5_hasKind_5 : decode cX5_hasKind 5 = .ok (.goto 4, 3) := by decide +kernel
theorem dX5_hasKind_8 : decode cX5_hasKind 8 = .ok (.iconst 0, 1) := by decide +kernel
theorem dX5_hasKind_9 : decode cX5_hasKind 9 = .ok (.ireturn, 1) := by decide +kernel
theorem dX5_madeFrom_0 : decode cX5_madeFrom 0 = .ok (.dload_n 1, 1) := by decide +kernel
theorem dX5_madeFrom_1 : decode cX5_madeFrom 1 = .ok (.aload_n 0, 1) := by decide +kernel
theorem dX5_madeFrom_2 : decode cX5_madeFrom 2 = .ok (.getfield 9, 3) := by decide +kernel
theorem dX5_madeFrom_5 : decode cX5_madeFrom 5 = .ok (.dmul, 1) := by decide +kernel
theorem dX5_madeFrom_6 : decode cX5_madeFrom 6 = .ok (.dreturn, 1) := by decide +kernel
theorem dX6_init_0 : decode cX6_init 0 = .ok (.aload_n 0, 1) := by decide +kernel
theorem dX6_init_1 : decode cX6_init 1 = .ok (.invokespecial 1, 3) := by decide +kernel
theorem dX6_init_4 : decode cX6_init 4 = .ok (.aload_n 0, 1) := by decide +kernel
theorem dX6_init_5 : decode cX6_init 5 = .ok (.iload_n 1, 1) := by decide +kernel
theorem dX6_init_6 : decode cX6_init 6 = .ok (.putfield 7, 3) := by decide +kernel
theorem dX6_init_9 : decode cX6_init 9 = .ok (.aload_n 0, 1) := by decide +kernel
theorem dX6_init_10 : decode cX6_init 10 = .ok (.iload_n 2, 1) := by decide +kernel
theorem dX6_init_11 : decode cX6_init 11 = .ok (.putfield 13, 3) := by decide +kernel
theorem dX6_init_14 : decode cX6_init 14 = .ok (.aload_n 0, 1) := by decide +kernel
theorem dX6_init_15 : decode cX6_init 15 = .ok (.iload_n 3, 1) := by decide +kernel
theorem dX6_init_16 : decode cX6_init 16 = .ok (.putfield 16, 3) := by decide +kernel
theorem dX6_init_19 : decode cX6_init 19 = .ok (.aload_n 0, 1) := by decide +kernel
theorem dX6_init_20 : decode cX6_init 20 = .ok (.dload 4, 2) := by decide +kernel
theorem dX6_init_22 : decode cX6_init 22 = .ok (.putfield 19, 3) := by decide +kernel
theorem dX6_init_25 : decode cX6_init 25 = .ok (.return_, 1) := by decide +kernel
set_option maxRecDepth 20000 in
theorem ggX6_moveOn_X7_rest : GoodIn wsX6_moveOn wsX7_rest := goodIn_r _ [7, 8, 9, 10, 6, 11, 12, 13, 14] (by decide +kernel) (by decide +kernel)
set_option maxRecDepth 20000 in
theorem gX6_moveOn_X7_rest : GoodIn wsX6_moveOn (va_wsS RX6 26 yX7_rest wsX7_rest) := goodIn_app (goodIn_of _ (by decide +kernel)) ggX6_moveOn_X7_rest
theorem dX6_moveOn_0 : decode cX6_moveOn 0 = .ok (.aload_n 0, 1) := by decide +kernel
theorem dX6_moveOn_1 : decode cX6_moveOn 1 = .ok (.getfield 23, 3) := by decide +kernel
theorem dX6_moveOn_4 : decode cX6_moveOn 4 = .ok (.aload_n 0, 1) := by decide +kernel
theorem dX6_moveOn_5 : decode cX6_moveOn 5 = .ok (.getfield 19, 3) := by decide +kernel
theorem dX6_moveOn_8 : decode cX6_moveOn 8 = .ok (.dadd, 1) := by decide +kernel
theorem dX6_moveOn_9 : decode cX6_moveOn 9 = .ok (.iload_n 1, 1) := by decide +kernel
theorem dX6_moveOn_10 : decode cX6_moveOn 10 = .ok (.i2d, 1) := by decide +kernel
theorem dX6_moveOn_11 : decode cX6_moveOn 11 = .ok (.invokestatic 26, 3) := by decide +kernel
theorem dX6_moveOn_14 : decode cX6_moveOn 14 = .ok (.dstore_n 2, 1) := by decide +kernel
theorem dX6_moveOn_15 : decode cX6_moveOn 15 = .ok (.dload_n 2, 1) := by decide +kernel
theorem dX6_moveOn_16 : decode cX6_moveOn 16 = .ok (.dconst 0, 1) := by decide +kernel
theorem dX6_moveOn_17 : decode cX6_moveOn 17 = .ok (.dcmp .g, 1) := by decide +kernel
theorem dX6_moveOn_18 : decode cX6_moveOn 18 = .ok (.ifCond .ge 17, 3) := by decide +kernel
theorem dX6_moveOn_21 : decode cX6_moveOn 21 = .ok (.dload_n 2, 1) := by decide +kernel
theorem dX6_moveOn_22 : decode cX6_moveOn 22 = .ok (.iload_n 1, 1) := by decide +kernel
theorem dX6_moveOn_23 : decode cX6_moveOn 23 = .ok (.i2d, 1) := by decide +kernel
theorem dX6_moveOn_24 : decode cX6_moveOn 24 = .ok (.dadd, 1) := by decide +kernel
theorem dX6_moveOn_25 : decode cX6_moveOn 25 = .ok (.dstore_n 2, 1) := by decide +kernel
theorem dX6_moveOn_26 : decode cX6_moveOn 26 = .ok (.dload_n 2, 1) := by decide +kernel
theorem dX6_moveOn_27 : decode cX6_moveOn 27 = .ok (.iload_n 1, 1) := by decide +kernel
theorem dX6_moveOn_28 : decode cX6_moveOn 28 = .ok (.i2d, 1) := by decide +kernel
theorem dX6_moveOn_29 : decode cX6_moveOn 29 = .ok (.dcmp .l, 1) := by decide +kernel
theorem dX6_moveOn_30 : decode cX6_moveOn 30 = .ok (.ifCond .lt 5, 3) := by decide +kernel
theorem dX6_moveOn_33 : decode cX6_moveOn 33 = .ok (.dconst 0, 1) := by decide +kernel
theorem dX6_moveOn_34 : decode cX6_moveOn 34 = .ok (.dstore_n 2, 1) := by decide +kernel
theorem dX6_moveOn_35 : decode cX6_moveOn 35 = .ok (.aload_n 0, 1) := by decide +kernel
theorem dX6_moveOn_36 : decode cX6_moveOn 36 = .ok (.dload_n 2, 1) := by decide +kernel
theorem dX6_moveOn_37 : decode cX6_moveOn 37 = .ok (.putfield 23, 3) := by decide +kernel
theorem dX6_moveOn_40 : decode cX6_moveOn 40 = .ok (.aload_n 0, 1) := by decide +kernel
theorem dX6_moveOn_41 : decode cX6_moveOn 41 = .ok (.aload_n 0, 1) := by decide +kernel
theorem dX6_moveOn_42 : decode cX6_moveOn 42 = .ok (.getfield 32, 3) := by decide +kernel
theorem dX6_moveOn_45 : decode cX6_moveOn 45 = .ok (.lconst 1, 1) := by decide +kernel
theorem dX6_moveOn_46 : decode cX6_moveOn 46 = .ok (.ladd, 1) := by decide +kernel
theorem dX6_moveOn_47 : decode cX6_moveOn 47 = .ok (.putfield 32, 3) := by decide +kernel
theorem dX6_moveOn_50 : decode cX6_moveOn 50 = .ok (.return_, 1) := by decide +kernel
set_option maxRecDepth 20000 in
theorem ggX7_isNumber_X7_exponentField : GoodIn wsX7_isNumber wsX7_exponentField := goodIn_r _ [4] (by decide +kernel) (by decide +kernel)
set_option maxRecDepth 20000 in
theorem gX7_isNumber_X7_exponentField : GoodIn wsX7_isNumber (va_wsS RX7 7 yX7_exponentField wsX7_exponentField) := goodIn_app (goodIn_of _ (by decide +kernel)) ggX7_isNumber_X7_exponentField
theorem dX7_isNumber_0 : decode cX7_isNumber 0 = .ok (.iload_n 0, 1) := by decide +kernel
theorem dX7_isNumber_1 : decode cX7_isNumber 1 = .ok (.lload_n 1, 1) := by decide +kernel
theorem dX7_isNumber_2 : decode cX7_isNumber 2 = .ok (.invokestatic 7, 3) := by decide +kernel
theorem dX7_isNumber_5 : decode cX7_isNumber 5 = .ok (.iload_n 0, 1) := by decide +kernel
theorem dX7_isNumber_6 : decode cX7_isNumber 6 = .ok (.ifCond .eq 9, 3) := by decide +kernel
theorem dX7_isNumber_9 : decode cX7_isNumber 9 = .ok (.sipush 2047, 3) := by decide +kernel
theorem dX7_isNumber_12 : decode cX7_isNumber 12 = .ok (.goto 6, 3) := by decide +kernel
theorem dX7_isNumber_15 : decode cX7_isNumber 15 = .ok (.sipush 255, 3) := by decide +kernel
theorem dX7_isNumber_18 : decode cX7_isNumber 18 = .ok (.if_icmp .eq 7, 3) := by decide +kernel
theorem dX7_isNumber_21 : decode cX7_isNumber 21 = .ok (.iconst 1, 1) := by decide +kernel
theorem dX7_isNumber_22 : decode cX7_isNumber 22 = .ok (.goto 4, 3) := by decide +kernel
theorem dX7_isNumber_25 : decode cX7_isNumber 25 = .ok (.iconst 0, 1) := by decide +kernel
theorem dX7_isNumber_26 : decode cX7_isNumber 26 = .ok (.ireturn, 1) := by decide +kernel
theorem dX7_exponentField_0 : decode cX7_exponentField 0 = .ok (.iload_n 0, 1) := by decide +kernel
theorem dX7_exponentField_1 : decode cX7_exponentField 1 = .ok (.ifCond .eq 15, 3) := by decide +kernel
theorem dX7_exponentField_4 : decode cX7_exponentField 4 = .ok (.lload_n 1, 1) := by decide +kernel
theorem dX7_exponentField_5 : decode cX7_exponentField 5 = .ok (.bipush 52, 2) := by decide +kernel
theorem dX7_exponentField_7 : decode cX7_exponentField 7 = .ok (.lushr, 1) := by decide +kernel
theorem dX7_exponentField_8 : decode cX7_exponentField 8 = .ok (.l2i, 1) := by decide +kernel
theorem dX7_exponentField_9 : decode cX7_exponentField 9 = .ok (.sipush 2047, 3) := by decide +kernel
theorem dX7_exponentField_12 : decode cX7_exponentField 12 = .ok (.iand, 1) := by decide +kernel
theorem dX7_exponentField_13 : decode cX7_exponentField 13 = .ok (.goto 12, 3) := by decide +kernel
theorem dX7_exponentField_16 : decode cX7_exponentField 16 = .ok (.lload_n 1, 1) := by decide +kernel
theorem dX7_exponentField_17 : decode cX7_exponentField 17 = .ok (.bipush 23, 2) := by decide +kernel
theorem dX7_exponentField_19 : decode cX7_exponentField 19 = .ok (.lushr, 1) := by decide +kernel
theorem dX7_exponentField_20 : decode cX7_exponentField 20 = .ok (.l2i, 1) := by decide +kernel
theorem dX7_exponentField_21 : decode cX7_exponentField 21 = .ok (.sipush 255, 3) := by decide +kernel
theorem dX7_exponentField_24 : decode cX7_exponentField 24 = .ok (.iand, 1) := by decide +kernel
theorem dX7_exponentField_25 : decode cX7_exponentField 25 = .ok (.ireturn, 1) := by decide +kernel
set_option maxRecDepth 20000 in
theorem ggX7_fromBits_X7_exponentField : GoodIn wsX7_fromBits wsX7_exponentField := goodIn_r _ [8] (by decide +kernel) (by decide +kernel)
set_option maxRecDepth 20000 in
theorem gX7_fromBits_X7_exponentField : GoodIn wsX7_fromBits (va_wsS RX7 7 yX7_exponentField wsX7_exponentField) := goodIn_app (goodIn_of _ (by decide +kernel)) ggX7_fromBits_X7_exponentField
set_option maxRecDepth 20000 in
theorem ggX7_fromBits_X7_timesPowerOfTwo : GoodIn wsX7_fromBits wsX7_timesPowerOfTwo := goodIn_r _ [11] (by decide +kernel) (by decide +kernel)
set_option maxRecDepth 20000 in
theorem gX7_fromBits_X7_timesPowerOfTwo : GoodIn wsX7_fromBits (va_wsS RX7 19 yX7_timesPowerOfTwo wsX7_timesPowerOfTwo) := goodIn_app (goodIn_of _ (by decide +kernel)) ggX7_fromBits_X7_timesPowerOfTwo
theorem dX7_fromBits_0 : decode cX7_fromBits 0 = .ok (.lconst 1, 1) := by decide +kernel
theorem dX7_fromBits_1 : decode cX7_fromBits 1 = .ok (.iload_n 0, 1) := by decide +kernel
theorem dX7_fromBits_2 : decode cX7_fromBits 2 = .ok (.ifCond .eq 8, 3) := by decide +kernel
theorem dX7_fromBits_5 : decode cX7_fromBits 5 = .ok (.bipush 52, 2) := by decide +kernel
theorem dX7_fromBits_7 : decode cX7_fromBits 7 = .ok (.goto 5, 3) := by decide +kernel
theorem dX7_fromBits_10 : decode cX7_fromBits 10 = .ok (.bipush 23, 2) := by decide +kernel
theorem dX7_fromBits_12 : decode cX7_fromBits 12 = .ok (.lshl, 1) := by decide +kernel
theorem dX7_fromBits_13 : decode cX7_fromBits 13 = .ok (.lstore_n 3, 1) := by decide +kernel
theorem dX7_fromBits_14 : decode cX7_fromBits 14 = .ok (.lload_n 1, 1) := by decide +kernel
theorem dX7_fromBits_15 : decode cX7_fromBits 15 = .ok (.lload_n 3, 1) := by decide +kernel
theorem dX7_fromBits_16 : decode cX7_fromBits 16 = .ok (.lconst 1, 1) := by decide +kernel
theorem dX7_fromBits_17 : decode cX7_fromBits 17 = .ok (.lsub, 1) := by decide +kernel
theorem dX7_fromBits_18 : decode cX7_fromBits 18 = .ok (.land, 1) := by decide +kernel
theorem dX7_fromBits_19 : decode cX7_fromBits 19 = .ok (.lstore 5, 2) := by decide +kernel
theorem dX7_fromBits_21 : decode cX7_fromBits 21 = .ok (.iload_n 0, 1) := by decide +kernel
theorem dX7_fromBits_22 : decode cX7_fromBits 22 = .ok (.lload_n 1, 1) := by decide +kernel
theorem dX7_fromBits_23 : decode cX7_fromBits 23 = .ok (.invokestatic 7, 3) := by decide +kernel
theorem dX7_fromBits_26 : decode cX7_fromBits 26 = .ok (.istore 7, 2) := by decide +kernel
theorem dX7_fromBits_28 : decode cX7_fromBits 28 = .ok (.iload 7, 2) := by decide +kernel
theorem dX7_fromBits_30 : decode cX7_fromBits 30 = .ok (.ifCond .ne 8, 3) := by decide +kernel
theorem dX7_fromBits_33 : decode cX7_fromBits 33 = .ok (.lload 5, 2) := by decide +kernel
theorem dX7_fromBits_35 : decode cX7_fromBits 35 = .ok (.goto 7, 3) := by decide +kernel
theorem dX7_fromBits_38 : decode cX7_fromBits 38 = .ok (.lload 5, 2) := by decide +kernel
theorem dX7_fromBits_40 : decode cX7_fromBits 40 = .ok (.lload_n 3, 1) := by decide +kernel
theorem dX7_fromBits_41 : decode cX7_fromBits 41 = .ok (.lor, 1) := by decide +kernel
theorem dX7_fromBits_42 : decode cX7_fromBits 42 = .ok (.lstore 8, 2) := by decide +kernel
theorem dX7_fromBits_44 : decode cX7_fromBits 44 = .ok (.iconst 1, 1) := by decide +kernel
theorem dX7_fromBits_45 : decode cX7_fromBits 45 = .ok (.iload 7, 2) := by decide +kernel
theorem dX7_fromBits_47 : decode cX7_fromBits 47 = .ok (.invokestatic 13, 3) := by decide +kernel
theorem dX7_fromBits_50 : decode cX7_fromBits 50 = .ok (.iload_n 0, 1) := by decide +kernel
theorem dX7_fromBits_51 : decode cX7_fromBits 51 = .ok (.ifCond .eq 9, 3) := by decide +kernel
theorem dX7_fromBits_54 : decode cX7_fromBits 54 = .ok (.sipush 1075, 3) := by decide +kernel
theorem dX7_fromBits_57 : decode cX7_fromBits 57 = .ok (.goto 6, 3) := by decide +kernel
theorem dX7_fromBits_60 : decode cX7_fromBits 60 = .ok (.sipush 150, 3) := by decide +kernel
theorem dX7_fromBits_63 : decode cX7_fromBits 63 = .ok (.isub, 1) := by decide +kernel
theorem dX7_fromBits_64 : decode cX7_fromBits 64 = .ok (.istore 10, 2) := by decide +kernel
theorem dX7_fromBits_66 : decode cX7_fromBits 66 = .ok (.lload 8, 2) := by decide +kernel
theorem dX7_fromBits_68 : decode cX7_fromBits 68 = .ok (.l2d, 1) := by decide +kernel
theorem dX7_fromBits_69 : decode cX7_fromBits 69 = .ok (.iload 10, 2) := by decide +kernel
theorem dX7_fromBits_71 : decode cX7_fromBits 71 = .ok (.invokestatic 19, 3) := by decide +kernel
theorem dX7_fromBits_74 : decode cX7_fromBits 74 = .ok (.dstore 11, 2) := by decide +kernel
theorem dX7_fromBits_76 : decode cX7_fromBits 76 = .ok (.iload_n 0, 1) := by decide +kernel
theorem dX7_fromBits_77 : decode cX7_fromBits 77 = .ok (.ifCond .eq 17, 3) := by decide +kernel
theorem dX7_fromBits_80 : decode cX7_fromBits 80 = .ok (.lload_n 1, 1) := by decide +kernel
theorem dX7_fromBits_81 : decode cX7_fromBits 81 = .ok (.lconst 0, 1) := by decide +kernel
theorem dX7_fromBits_82 : decode cX7_fromBits 82 = .ok (.lcmp, 1) := by decide +kernel
theorem dX7_fromBits_83 : decode cX7_fromBits 83 = .ok (.ifCond .ge 7, 3) := by decide +kernel
theorem dX7_fromBits_86 : decode cX7_fromBits 86 = .ok (.iconst 1, 1) := by decide +kernel
theorem dX7_fromBits_87 : decode cX7_fromBits 87 = .ok (.goto 17, 3) := by decide +kernel
theorem dX7_fromBits_90 : decode cX7_fromBits 90 = .ok (.iconst 0, 1) := by decide +kernel
theorem dX7_fromBits_91 : decode cX7_fromBits 91 = .ok (.goto 13, 3) := by decide +kernel
theorem dX7_fromBits_94 : decode cX7_fromBits 94 = .ok (.lload_n 1, 1) := by decide +kernel
theorem dX7_fromBits_95 : decode cX7_fromBits 95 = .ok (.l2i, 1) := by decide +kernel
theorem dX7_fromBits_96 : decode cX7_fromBits 96 = .ok (.ifCond .ge 7, 3) := by decide +kernel
