def RX0 : String := "TwoWires$Bus"
def TX0 : u_T := fun k => match k with
  | 0 => ("TwoWires$Bus", "callers", "[LTwoWires$Caller;", true)
  | 1 => ("TwoWires$Bus", "callerCount", "I", false)
  | 2 => ("TwoWires$Bus", "listeners", "[LTwoWires$Listener;", true)
  | 3 => ("TwoWires$Bus", "listenerCount", "I", false)
  | 4 => ("TwoWires$Bus", "limit", "I", false)
  | 5 => ("TwoWires$Bus", "slots", "LTwoWires$SlotLog;", true)
  | 6 => ("TwoWires$Bus", "phase", "I", false)
  | 7 => ("TwoWires$Bus", "contenders", "I", false)
  | 8 => ("TwoWires$Bus", "partner", "I", false)
  | 9 => ("TwoWires$Bus", "reading", "Z", false)
  | 10 => ("TwoWires$Bus", "bits", "I", false)
  | 11 => ("TwoWires$Bus", "levels", "I", false)
  | 12 => ("TwoWires$Bus", "bytesDone", "I", false)
  | _ => ("TwoWires$Bus", "holdLeft", "I", false)
def tyX0 : Nat → FieldType := fun k => match k with
  | 0 => .array (.object "TwoWires$Caller")
  | 1 => .int
  | 2 => .array (.object "TwoWires$Listener")
  | 3 => .int
  | 4 => .int
  | 5 => .object "TwoWires$SlotLog"
  | 6 => .int
  | 7 => .int
  | 8 => .int
  | 9 => .boolean
  | 10 => .int
  | 11 => .int
  | 12 => .int
  | _ => .int
theorem nmX0 : ∀ a, a < 14 → ∀ b, b < 14 → a ≠ b → (TX0 a).2.1 ≠ (TX0 b).2.1 := by decide +kernel
theorem tyX0_ok : ∀ k, k < 14 → parseFieldDescriptor (TX0 k).2.2.1 = some (tyX0 k) := by decide +kernel
abbrev cX0_init : ByteArray := prog_2_method_1_code
def yX0_init : MethodName := ⟨RX0, "<init>", "()V"⟩
abbrev cX0_copyFrom : ByteArray := prog_2_method_2_code
def yX0_copyFrom : MethodName := ⟨RX0, "copyFrom", "(LTwoWires$Bus;)V"⟩
abbrev cX0_copyTransfer : ByteArray := prog_2_method_3_code
def yX0_copyTransfer : MethodName := ⟨RX0, "copyTransfer", "(LTwoWires$Bus;)V"⟩
abbrev cX0_callerAt : ByteArray := prog_2_method_4_code
def yX0_callerAt : MethodName := ⟨RX0, "callerAt", "(I)LTwoWires$Caller;"⟩
abbrev cX0_listenerAt : ByteArray := prog_2_method_5_code
def yX0_listenerAt : MethodName := ⟨RX0, "listenerAt", "(I)LTwoWires$Listener;"⟩
abbrev cX0_firstMessage : ByteArray := prog_2_method_6_code
def yX0_firstMessage : MethodName := ⟨RX0, "firstMessage", "(I)LTwoWires$Message;"⟩
abbrev cX0_contends : ByteArray := prog_2_method_7_code
def yX0_contends : MethodName := ⟨RX0, "contends", "(I)Z"⟩
abbrev cX0_listenerWith : ByteArray := prog_2_method_8_code
def yX0_listenerWith : MethodName := ⟨RX0, "listenerWith", "(I)I"⟩
abbrev cX0_answererTo : ByteArray := prog_2_method_9_code
def yX0_answererTo : MethodName := ⟨RX0, "answererTo", "(I)I"⟩
abbrev cX0_placeListener : ByteArray := prog_2_method_10_code
def yX0_placeListener : MethodName := ⟨RX0, "placeListener", "(II)I"⟩
abbrev cX0_listenersOn : ByteArray := prog_2_method_11_code
def yX0_listenersOn : MethodName := ⟨RX0, "listenersOn", "()I"⟩
abbrev cX0_tell : ByteArray := prog_2_method_12_code
def yX0_tell : MethodName := ⟨RX0, "tell", "(I)I"⟩
abbrev cX0_callersWithMessages : ByteArray := prog_2_method_13_code
def yX0_callersWithMessages : MethodName := ⟨RX0, "callersWithMessages", "()I"⟩
abbrev cX0_lowestHeaders : ByteArray := prog_2_method_14_code
def yX0_lowestHeaders : MethodName := ⟨RX0, "lowestHeaders", "()I"⟩
abbrev cX0_slotsAlone : ByteArray := prog_2_method_15_code
def yX0_slotsAlone : MethodName := ⟨RX0, "slotsAlone", "(LTwoWires$Message;)I"⟩
abbrev cX0_passSlots : ByteArray := prog_2_method_16_code
def yX0_passSlots : MethodName := ⟨RX0, "passSlots", "(I)V"⟩
abbrev cX0_runToRest : ByteArray := prog_2_method_17_code
def yX0_runToRest : MethodName := ⟨RX0, "runToRest", "()I"⟩
abbrev cX0_passSlot : ByteArray := prog_2_method_18_code
def yX0_passSlot : MethodName := ⟨RX0, "passSlot", "()V"⟩
abbrev cX0_startTransfer : ByteArray := prog_2_method_19_code
def yX0_startTransfer : MethodName := ⟨RX0, "startTransfer", "()I"⟩
abbrev cX0_expectBits : ByteArray := prog_2_method_20_code
def yX0_expectBits : MethodName := ⟨RX0, "expectBits", "(I)V"⟩
abbrev cX0_sendBits : ByteArray := prog_2_method_21_code
def yX0_sendBits : MethodName := ⟨RX0, "sendBits", "()I"⟩
abbrev cX0_sentBit : ByteArray := prog_2_method_22_code
def yX0_sentBit : MethodName := ⟨RX0, "sentBit", "(LTwoWires$Message;)I"⟩
abbrev cX0_loseBits : ByteArray := prog_2_method_23_code
def yX0_loseBits : MethodName := ⟨RX0, "loseBits", "(I)V"⟩
abbrev cX0_readBit : ByteArray := prog_2_method_24_code
def yX0_readBit : MethodName := ⟨RX0, "readBit", "()I"⟩
abbrev cX0_takeBit : ByteArray := prog_2_method_25_code
def yX0_takeBit : MethodName := ⟨RX0, "takeBit", "(I)I"⟩
abbrev cX0_endBits : ByteArray := prog_2_method_26_code
def yX0_endBits : MethodName := ⟨RX0, "endBits", "()V"⟩
abbrev cX0_receiveLevels : ByteArray := prog_2_method_27_code
def yX0_receiveLevels : MethodName := ⟨RX0, "receiveLevels", "()V"⟩
abbrev cX0_answerHeader : ByteArray := prog_2_method_28_code
def yX0_answerHeader : MethodName := ⟨RX0, "answerHeader", "()I"⟩
abbrev cX0_answerWrite : ByteArray := prog_2_method_29_code
def yX0_answerWrite : MethodName := ⟨RX0, "answerWrite", "()I"⟩
abbrev cX0_answerRead : ByteArray := prog_2_method_30_code
def yX0_answerRead : MethodName := ⟨RX0, "answerRead", "()I"⟩
abbrev cX0_contendersWithMoreBytes : ByteArray := prog_2_method_31_code
def yX0_contendersWithMoreBytes : MethodName := ⟨RX0, "contendersWithMoreBytes", "()I"⟩
abbrev cX0_goOnWith : ByteArray := prog_2_method_32_code
def yX0_goOnWith : MethodName := ⟨RX0, "goOnWith", "(I)V"⟩
abbrev cX0_endMessages : ByteArray := prog_2_method_33_code
def yX0_endMessages : MethodName := ⟨RX0, "endMessages", "(II)V"⟩
abbrev cX0_holdLine : ByteArray := prog_2_method_34_code
def yX0_holdLine : MethodName := ⟨RX0, "holdLine", "()V"⟩
abbrev cX0_holdSlot : ByteArray := prog_2_method_35_code
def yX0_holdSlot : MethodName := ⟨RX0, "holdSlot", "()I"⟩
abbrev cX0_stopTransfer : ByteArray := prog_2_method_36_code
def yX0_stopTransfer : MethodName := ⟨RX0, "stopTransfer", "()V"⟩
def RX1 : String := "TwoWires$Caller"
def TX1 : u_T := fun k => match k with
  | 0 => ("TwoWires$Caller", "queue", "[LTwoWires$Message;", true)
  | 1 => ("TwoWires$Caller", "size", "I", false)
  | 2 => ("TwoWires$Caller", "ended", "[I", true)
  | 3 => ("TwoWires$Caller", "losses", "I", false)
  | 4 => ("TwoWires$Caller", "received", "I", false)
  | _ => ("TwoWires$Caller", "lastByte", "I", false)
def tyX1 : Nat → FieldType := fun k => match k with
  | 0 => .array (.object "TwoWires$Message")
  | 1 => .int
  | 2 => .array .int
  | 3 => .int
  | 4 => .int
  | _ => .int
theorem nmX1 : ∀ a, a < 6 → ∀ b, b < 6 → a ≠ b → (TX1 a).2.1 ≠ (TX1 b).2.1 := by decide +kernel
theorem tyX1_ok : ∀ k, k < 6 → parseFieldDescriptor (TX1 k).2.2.1 = some (tyX1 k) := by decide +kernel
abbrev cX1_init : ByteArray := prog_3_method_1_code
def yX1_init : MethodName := ⟨RX1, "<init>", "()V"⟩
abbrev cX1_copyFrom : ByteArray := prog_3_method_2_code
def yX1_copyFrom : MethodName := ⟨RX1, "copyFrom", "(LTwoWires$Caller;)V"⟩
abbrev cX1_messageAt : ByteArray := prog_3_method_3_code
def yX1_messageAt : MethodName := ⟨RX1, "messageAt", "(I)LTwoWires$Message;"⟩
abbrev cX1_enqueue : ByteArray := prog_3_method_4_code
def yX1_enqueue : MethodName := ⟨RX1, "enqueue", "(ZIIJ)Z"⟩
abbrev cX1_takeBack : ByteArray := prog_3_method_5_code
def yX1_takeBack : MethodName := ⟨RX1, "takeBack", "()I"⟩
abbrev cX1_endFirst : ByteArray := prog_3_method_6_code
def yX1_endFirst : MethodName := ⟨RX1, "endFirst", "(I)V"⟩
abbrev cX1_loseBit : ByteArray := prog_3_method_7_code
def yX1_loseBit : MethodName := ⟨RX1, "loseBit", "(I)V"⟩
abbrev cX1_receiveByte : ByteArray := prog_3_method_8_code
def yX1_receiveByte : MethodName := ⟨RX1, "receiveByte", "(I)V"⟩
abbrev cX1_tell : ByteArray := prog_3_method_9_code
def yX1_tell : MethodName := ⟨RX1, "tell", "(I)I"⟩
def RX2 : String := "TwoWires$Listener"
def TX2 : u_T := fun k => match k with
  | 0 => ("TwoWires$Listener", "address", "I", false)
  | 1 => ("TwoWires$Listener", "hold", "I", false)
  | 2 => ("TwoWires$Listener", "on", "Z", false)
  | 3 => ("TwoWires$Listener", "heldSlots", "I", false)
  | 4 => ("TwoWires$Listener", "bytes", "[I", true)
  | 5 => ("TwoWires$Listener", "size", "I", false)
  | _ => ("TwoWires$Listener", "pointer", "I", false)
def tyX2 : Nat → FieldType := fun k => match k with
  | 0 => .int
  | 1 => .int
  | 2 => .boolean
  | 3 => .int
  | 4 => .array .int
  | 5 => .int
  | _ => .int
theorem nmX2 : ∀ a, a < 7 → ∀ b, b < 7 → a ≠ b → (TX2 a).2.1 ≠ (TX2 b).2.1 := by decide +kernel
theorem tyX2_ok : ∀ k, k < 7 → parseFieldDescriptor (TX2 k).2.2.1 = some (tyX2 k) := by decide +kernel
abbrev cX2_init : ByteArray := prog_4_method_1_code
def yX2_init : MethodName := ⟨RX2, "<init>", "()V"⟩
abbrev cX2_copyFrom : ByteArray := prog_4_method_2_code
def yX2_copyFrom : MethodName := ⟨RX2, "copyFrom", "(LTwoWires$Listener;)V"⟩
abbrev cX2_forget : ByteArray := prog_4_method_3_code
def yX2_forget : MethodName := ⟨RX2, "forget", "()I"⟩
abbrev cX2_byteAt : ByteArray := prog_4_method_4_code
def yX2_byteAt : MethodName := ⟨RX2, "byteAt", "(I)I"⟩
abbrev cX2_storeByte : ByteArray := prog_4_method_5_code
def yX2_storeByte : MethodName := ⟨RX2, "storeByte", "(I)Z"⟩
abbrev cX2_movePointer : ByteArray := prog_4_method_6_code
def yX2_movePointer : MethodName := ⟨RX2, "movePointer", "()V"⟩
abbrev cX2_tell : ByteArray := prog_4_method_7_code
def yX2_tell : MethodName := ⟨RX2, "tell", "(I)I"⟩
def RX3 : String := "TwoWires$Message"
def TX3 : u_T := fun k => match k with
  | 0 => ("TwoWires$Message", "isRead", "Z", false)
  | 1 => ("TwoWires$Message", "address", "I", false)
  | 2 => ("TwoWires$Message", "count", "I", false)
  | 3 => ("TwoWires$Message", "losses", "I", false)
  | _ => ("TwoWires$Message", "bytes", "J", false)
def tyX3 : Nat → FieldType := fun k => match k with
  | 0 => .boolean
  | 1 => .int
  | 2 => .int
  | 3 => .int
  | _ => .long
theorem nmX3 : ∀ a, a < 5 → ∀ b, b < 5 → a ≠ b → (TX3 a).2.1 ≠ (TX3 b).2.1 := by decide +kernel
theorem tyX3_ok : ∀ k, k < 5 → parseFieldDescriptor (TX3 k).2.2.1 = some (tyX3 k) := by decide +kernel
abbrev cX3_init : ByteArray := prog_5_method_1_code
def yX3_init : MethodName := ⟨RX3, "<init>", "()V"⟩
abbrev cX3_copyFrom : ByteArray := prog_5_method_2_code
def yX3_copyFrom : MethodName := ⟨RX3, "copyFrom", "(LTwoWires$Message;)V"⟩
abbrev cX3_header : ByteArray := prog_5_method_3_code
def yX3_header : MethodName := ⟨RX3, "header", "()I"⟩
abbrev cX3_byteAt : ByteArray := prog_5_method_4_code
def yX3_byteAt : MethodName := ⟨RX3, "byteAt", "(I)I"⟩
abbrev cX3_tell : ByteArray := prog_5_method_5_code
def yX3_tell : MethodName := ⟨RX3, "tell", "(I)I"⟩
def RX4 : String := "TwoWires$OrderText"
def TX4 : u_T := fun k => match k with
  | 0 => ("TwoWires$OrderText", "bytesOfText", "[I", true)
  | 1 => ("TwoWires$OrderText", "length", "I", false)
  | 2 => ("TwoWires$OrderText", "at", "I", false)
  | 3 => ("TwoWires$OrderText", "error", "I", false)
  | 4 => ("TwoWires$OrderText", "number", "I", false)
  | 5 => ("TwoWires$OrderText", "kind", "I", false)
  | 6 => ("TwoWires$OrderText", "callerDigit", "I", false)
  | 7 => ("TwoWires$OrderText", "address", "I", false)
  | 8 => ("TwoWires$OrderText", "amount", "I", false)
  | _ => ("TwoWires$OrderText", "bytes", "J", false)
def tyX4 : Nat → FieldType := fun k => match k with
  | 0 => .array .int
  | 1 => .int
  | 2 => .int
  | 3 => .int
  | 4 => .int
  | 5 => .int
  | 6 => .int
  | 7 => .int
  | 8 => .int
  | _ => .long
theorem nmX4 : ∀ a, a < 10 → ∀ b, b < 10 → a ≠ b → (TX4 a).2.1 ≠ (TX4 b).2.1 := by decide +kernel
theorem tyX4_ok : ∀ k, k < 10 → parseFieldDescriptor (TX4 k).2.2.1 = some (tyX4 k) := by decide +kernel
abbrev cX4_init : ByteArray := prog_6_method_1_code
def yX4_init : MethodName := ⟨RX4, "<init>", "()V"⟩
abbrev cX4_add : ByteArray := prog_6_method_2_code
def yX4_add : MethodName := ⟨RX4, "add", "(I)I"⟩
abbrev cX4_rewind : ByteArray := prog_6_method_3_code
def yX4_rewind : MethodName := ⟨RX4, "rewind", "()V"⟩
abbrev cX4_findError : ByteArray := prog_6_method_4_code
def yX4_findError : MethodName := ⟨RX4, "findError", "()I"⟩
abbrev cX4_nextOrder : ByteArray := prog_6_method_5_code
def yX4_nextOrder : MethodName := ⟨RX4, "nextOrder", "()Z"⟩
abbrev cX4_readTarget : ByteArray := prog_6_method_6_code
def yX4_readTarget : MethodName := ⟨RX4, "readTarget", "()Z"⟩
abbrev cX4_readBytes : ByteArray := prog_6_method_7_code
def yX4_readBytes : MethodName := ⟨RX4, "readBytes", "()Z"⟩
abbrev cX4_readCount : ByteArray := prog_6_method_8_code
def yX4_readCount : MethodName := ⟨RX4, "readCount", "()Z"⟩
abbrev cX4_readSlots : ByteArray := prog_6_method_9_code
def yX4_readSlots : MethodName := ⟨RX4, "readSlots", "()Z"⟩
abbrev cX4_readNumber : ByteArray := prog_6_method_10_code
def yX4_readNumber : MethodName := ⟨RX4, "readNumber", "(II)Z"⟩
abbrev cX4_readDigit : ByteArray := prog_6_method_11_code
def yX4_readDigit : MethodName := ⟨RX4, "readDigit", "(II)Z"⟩
abbrev cX4_take : ByteArray := prog_6_method_12_code
def yX4_take : MethodName := ⟨RX4, "take", "(I)Z"⟩
abbrev cX4_takeIfThere : ByteArray := prog_6_method_13_code
def yX4_takeIfThere : MethodName := ⟨RX4, "takeIfThere", "(I)Z"⟩
abbrev cX4_fail : ByteArray := prog_6_method_14_code
def yX4_fail : MethodName := ⟨RX4, "fail", "(I)Z"⟩
abbrev cX4_isDigit : ByteArray := prog_6_method_15_code
def yX4_isDigit : MethodName := ⟨RX4, "isDigit", "(I)Z"⟩
abbrev cX4_nextByte : ByteArray := prog_6_method_16_code
def yX4_nextByte : MethodName := ⟨RX4, "nextByte", "()I"⟩
def RX5 : String := "TwoWires$SlotLog"
def TX5 : u_T := fun k => match k with
  | 0 => ("TwoWires$SlotLog", "passed", "I", false)
  | 1 => ("TwoWires$SlotLog", "notIdle", "I", false)
  | 2 => ("TwoWires$SlotLog", "held", "I", false)
  | 3 => ("TwoWires$SlotLog", "levels", "[I", true)
  | 4 => ("TwoWires$SlotLog", "contenders", "[I", true)
  | _ => ("TwoWires$SlotLog", "kinds", "[I", true)
def tyX5 : Nat → FieldType := fun k => match k with
  | 0 => .int
  | 1 => .int
  | 2 => .int
  | 3 => .array .int
  | 4 => .array .int
  | _ => .array .int
theorem nmX5 : ∀ a, a < 6 → ∀ b, b < 6 → a ≠ b → (TX5 a).2.1 ≠ (TX5 b).2.1 := by decide +kernel
theorem tyX5_ok : ∀ k, k < 6 → parseFieldDescriptor (TX5 k).2.2.1 = some (tyX5 k) := by decide +kernel
abbrev cX5_init : ByteArray := prog_7_method_1_code
def yX5_init : MethodName := ⟨RX5, "<init>", "()V"⟩
abbrev cX5_copyFrom : ByteArray := prog_7_method_2_code
def yX5_copyFrom : MethodName := ⟨RX5, "copyFrom", "(LTwoWires$SlotLog;)V"⟩
abbrev cX5_keptCount : ByteArray := prog_7_method_3_code
def yX5_keptCount : MethodName := ⟨RX5, "keptCount", "()I"⟩
abbrev cX5_keep : ByteArray := prog_7_method_4_code
def yX5_keep : MethodName := ⟨RX5, "keep", "(III)V"⟩
abbrev cX5_tell : ByteArray := prog_7_method_5_code
def yX5_tell : MethodName := ⟨RX5, "tell", "(II)I"⟩
abbrev cX5_lastLevel : ByteArray := prog_7_method_6_code
def yX5_lastLevel : MethodName := ⟨RX5, "lastLevel", "()I"⟩
def RX6 : String := "TwoWires"
def TX6 : u_T := fun k => match k with
  | 0 => ("TwoWires", "bus", "LTwoWires$Bus;", true)
  | 1 => ("TwoWires", "trial", "LTwoWires$Bus;", true)
  | 2 => ("TwoWires", "fresh", "LTwoWires$Bus;", true)
  | 3 => ("TwoWires", "saved", "[LTwoWires$Bus;", true)
  | 4 => ("TwoWires", "savedCount", "I", false)
  | _ => ("TwoWires", "text", "LTwoWires$OrderText;", true)
def tyX6 : Nat → FieldType := fun k => match k with
  | 0 => .object "TwoWires$Bus"
  | 1 => .object "TwoWires$Bus"
  | 2 => .object "TwoWires$Bus"
  | 3 => .array (.object "TwoWires$Bus")
  | 4 => .int
  | _ => .object "TwoWires$OrderText"
theorem nmX6 : ∀ a, a < 6 → ∀ b, b < 6 → a ≠ b → (TX6 a).2.1 ≠ (TX6 b).2.1 := by decide +kernel
theorem tyX6_ok : ∀ k, k < 6 → parseFieldDescriptor (TX6 k).2.2.1 = some (tyX6 k) := by decide +kernel
abbrev cX6_init : ByteArray := prog_1_method_1_code
def yX6_init : MethodName := ⟨RX6, "<init>", "()V"⟩
abbrev cX6_begin : ByteArray := prog_1_method_2_code
def yX6_begin : MethodName := ⟨RX6, "begin", "(I)I"⟩
abbrev cX6_addListener : ByteArray := prog_1_method_3_code
def yX6_addListener : MethodName := ⟨RX6, "addListener", "(II)I"⟩
abbrev cX6_turn : ByteArray := prog_1_method_4_code
def yX6_turn : MethodName := ⟨RX6, "turn", "(IZ)I"⟩
abbrev cX6_empty : ByteArray := prog_1_method_5_code
def yX6_empty : MethodName := ⟨RX6, "empty", "(I)I"⟩
abbrev cX6_setLimit : ByteArray := prog_1_method_6_code
def yX6_setLimit : MethodName := ⟨RX6, "setLimit", "(I)I"⟩
abbrev cX6_write : ByteArray := prog_1_method_7_code
def yX6_write : MethodName := ⟨RX6, "write", "(IIIJ)I"⟩
abbrev cX6_read : ByteArray := prog_1_method_8_code
def yX6_read : MethodName := ⟨RX6, "read", "(III)I"⟩
abbrev cX6_cancel : ByteArray := prog_1_method_9_code
def yX6_cancel : MethodName := ⟨RX6, "cancel", "(I)I"⟩
abbrev cX6_pass : ByteArray := prog_1_method_10_code
def yX6_pass : MethodName := ⟨RX6, "pass", "(I)I"⟩
abbrev cX6_finish : ByteArray := prog_1_method_11_code
def yX6_finish : MethodName := ⟨RX6, "finish", "()I"⟩
abbrev cX6_caller : ByteArray := prog_1_method_12_code
def yX6_caller : MethodName := ⟨RX6, "caller", "(II)I"⟩
abbrev cX6_message : ByteArray := prog_1_method_13_code
def yX6_message : MethodName := ⟨RX6, "message", "(III)I"⟩
abbrev cX6_listener : ByteArray := prog_1_method_14_code
def yX6_listener : MethodName := ⟨RX6, "listener", "(II)I"⟩
abbrev cX6_memory : ByteArray := prog_1_method_15_code
def yX6_memory : MethodName := ⟨RX6, "memory", "(II)I"⟩
abbrev cX6_value : ByteArray := prog_1_method_16_code
def yX6_value : MethodName := ⟨RX6, "value", "(I)I"⟩
abbrev cX6_log : ByteArray := prog_1_method_17_code
def yX6_log : MethodName := ⟨RX6, "log", "(II)I"⟩
abbrev cX6_slotsToFinish : ByteArray := prog_1_method_18_code
def yX6_slotsToFinish : MethodName := ⟨RX6, "slotsToFinish", "()I"⟩
abbrev cX6_alone : ByteArray := prog_1_method_19_code
def yX6_alone : MethodName := ⟨RX6, "alone", "(I)I"⟩
abbrev cX6_winners : ByteArray := prog_1_method_20_code
def yX6_winners : MethodName := ⟨RX6, "winners", "()I"⟩
abbrev cX6_delivers : ByteArray := prog_1_method_21_code
def yX6_delivers : MethodName := ⟨RX6, "delivers", "(I)I"⟩
abbrev cX6_append : ByteArray := prog_1_method_23_code
def yX6_append : MethodName := ⟨RX6, "append", "(I)I"⟩
abbrev cX6_clearText : ByteArray := prog_1_method_24_code
def yX6_clearText : MethodName := ⟨RX6, "clearText", "()I"⟩
abbrev cX6_carryOut : ByteArray := prog_1_method_25_code
def yX6_carryOut : MethodName := ⟨RX6, "carryOut", "()I"⟩
abbrev cX6_undo : ByteArray := prog_1_method_26_code
def yX6_undo : MethodName := ⟨RX6, "undo", "()I"⟩
abbrev cX6_digest : ByteArray := prog_1_method_27_code
def yX6_digest : MethodName := ⟨RX6, "digest", "()J"⟩
abbrev cX6_mix : ByteArray := prog_1_method_28_code
def yX6_mix : MethodName := ⟨RX6, "mix", "(JI)J"⟩
abbrev cX6_mixCaller : ByteArray := prog_1_method_29_code
def yX6_mixCaller : MethodName := ⟨RX6, "mixCaller", "(JI)J"⟩
abbrev cX6_mixMessage : ByteArray := prog_1_method_30_code
def yX6_mixMessage : MethodName := ⟨RX6, "mixMessage", "(JLTwoWires$Message;)J"⟩
abbrev cX6_mixListener : ByteArray := prog_1_method_31_code
def yX6_mixListener : MethodName := ⟨RX6, "mixListener", "(JLTwoWires$Listener;)J"⟩
abbrev cX6_requireRange : ByteArray := prog_1_method_32_code
def yX6_requireRange : MethodName := ⟨RX6, "requireRange", "(III)V"⟩
abbrev cX6_callerOrThrow : ByteArray := prog_1_method_33_code
def yX6_callerOrThrow : MethodName := ⟨RX6, "callerOrThrow", "(I)LTwoWires$Caller;"⟩
abbrev cX6_listenerOrThrow : ByteArray := prog_1_method_34_code
def yX6_listenerOrThrow : MethodName := ⟨RX6, "listenerOrThrow", "(I)LTwoWires$Listener;"⟩
abbrev cX6_queueMessage : ByteArray := prog_1_method_35_code
def yX6_queueMessage : MethodName := ⟨RX6, "queueMessage", "(LTwoWires$Caller;ZIIJ)I"⟩
abbrev cX6_obeyOrder : ByteArray := prog_1_method_36_code
def yX6_obeyOrder : MethodName := ⟨RX6, "obeyOrder", "()Z"⟩
abbrev cX6_runTrial : ByteArray := prog_1_method_37_code
def yX6_runTrial : MethodName := ⟨RX6, "runTrial", "()I"⟩
abbrev cX6_saveState : ByteArray := prog_1_method_38_code
def yX6_saveState : MethodName := ⟨RX6, "saveState", "()V"⟩
abbrev cX6_dropOldestState : ByteArray := prog_1_method_39_code
def yX6_dropOldestState : MethodName := ⟨RX6, "dropOldestState", "()V"⟩
abbrev cX6_savedAt : ByteArray := prog_1_method_40_code
def yX6_savedAt : MethodName := ⟨RX6, "savedAt", "(I)LTwoWires$Bus;"⟩
abbrev cX6_copyNumbers : ByteArray := prog_1_method_41_code
def yX6_copyNumbers : MethodName := ⟨RX6, "copyNumbers", "([I[I)V"⟩
def RX7 : String := "TwoWiresModel"
def TX7 : u_T := fun k => match k with
  | _ => ("", "", "", false)
def tyX7 : Nat → FieldType := fun k => match k with
  | _ => .int
theorem nmX7 : ∀ a, a < 0 → ∀ b, b < 0 → a ≠ b → (TX7 a).2.1 ≠ (TX7 b).2.1 := by decide +kernel
theorem tyX7_ok : ∀ k, k < 0 → parseFieldDescriptor (TX7 k).2.2.1 = some (tyX7 k) := by decide +kernel
def RL : String := "TwoWiresLaw"
abbrev cL_cell : ByteArray := method_2_code
def yL_cell : MethodName := ⟨RL, "cell", "([II)I"⟩
abbrev cL_begin : ByteArray := method_3_code
def yL_begin : MethodName := ⟨RL, "begin", "(LTwoWires;I)I"⟩
abbrev cL_addListener : ByteArray := method_4_code
def yL_addListener : MethodName := ⟨RL, "addListener", "(LTwoWires;II)I"⟩
abbrev cL_turn : ByteArray := method_5_code
def yL_turn : MethodName := ⟨RL, "turn", "(LTwoWires;IZ)I"⟩
abbrev cL_empty : ByteArray := method_6_code
def yL_empty : MethodName := ⟨RL, "empty", "(LTwoWires;I)I"⟩
abbrev cL_setLimit : ByteArray := method_7_code
def yL_setLimit : MethodName := ⟨RL, "setLimit", "(LTwoWires;I)I"⟩
abbrev cL_write : ByteArray := method_8_code
def yL_write : MethodName := ⟨RL, "write", "(LTwoWires;IIIJ)I"⟩
abbrev cL_read : ByteArray := method_9_code
def yL_read : MethodName := ⟨RL, "read", "(LTwoWires;III)I"⟩
abbrev cL_cancel : ByteArray := method_10_code
def yL_cancel : MethodName := ⟨RL, "cancel", "(LTwoWires;I)I"⟩
abbrev cL_pass : ByteArray := method_11_code
def yL_pass : MethodName := ⟨RL, "pass", "(LTwoWires;I)I"⟩
abbrev cL_caller : ByteArray := method_12_code
def yL_caller : MethodName := ⟨RL, "caller", "(LTwoWires;II)I"⟩
abbrev cL_message : ByteArray := method_13_code
def yL_message : MethodName := ⟨RL, "message", "(LTwoWires;III)I"⟩
abbrev cL_listener : ByteArray := method_14_code
def yL_listener : MethodName := ⟨RL, "listener", "(LTwoWires;II)I"⟩
abbrev cL_memory : ByteArray := method_15_code
def yL_memory : MethodName := ⟨RL, "memory", "(LTwoWires;II)I"⟩
abbrev cL_value : ByteArray := method_16_code
def yL_value : MethodName := ⟨RL, "value", "(LTwoWires;I)I"⟩
abbrev cL_log : ByteArray := method_17_code
def yL_log : MethodName := ⟨RL, "log", "(LTwoWires;II)I"⟩
abbrev cL_alone : ByteArray := method_18_code
def yL_alone : MethodName := ⟨RL, "alone", "(LTwoWires;I)I"⟩
abbrev cL_delivers : ByteArray := method_19_code
def yL_delivers : MethodName := ⟨RL, "delivers", "(LTwoWires;I)I"⟩
abbrev cL_append : ByteArray := method_20_code
def yL_append : MethodName := ⟨RL, "append", "(LTwoWires;I)I"⟩
abbrev cL_undo : ByteArray := method_21_code
def yL_undo : MethodName := ⟨RL, "undo", "(LTwoWires;)I"⟩
abbrev cL_queued : ByteArray := method_22_code
def yL_queued : MethodName := ⟨RL, "queued", "(LTwoWires;)I"⟩
abbrev cL_isSound : ByteArray := method_23_code
def yL_isSound : MethodName := ⟨RL, "isSound", "(LTwoWires;)Z"⟩
abbrev cL_finishes : ByteArray := method_24_code
def yL_finishes : MethodName := ⟨RL, "finishes", "(LTwoWires;II)Z"⟩
abbrev cL_wins : ByteArray := method_25_code
def yL_wins : MethodName := ⟨RL, "wins", "(LTwoWires;I)Z"⟩
abbrev cL_carries : ByteArray := method_26_code
def yL_carries : MethodName := ⟨RL, "carries", "(LTwoWires;III)Z"⟩
abbrev cL_refuses : ByteArray := method_27_code
def yL_refuses : MethodName := ⟨RL, "refuses", "(LTwoWires;)Z"⟩
abbrev cL_acts : ByteArray := method_28_code
def yL_acts : MethodName := ⟨RL, "acts", "(LTwoWires;I)Z"⟩
abbrev cL_law : ByteArray := code
def yL_law : MethodName := ⟨RL, "law", "([I)Z"⟩
abbrev vwCl : List vw_C := [(RX0, TX0, 14), (RX1, TX1, 6), (RX2, TX2, 7), (RX3, TX3, 5), (RX4, TX4, 10), (RX5, TX5, 6), (RX6, TX6, 6), (RX6, TX6, 6)]
abbrev oN : Nat → String := fun k => match k with | 0 => RX0 | 1 => RX1 | 2 => RX2 | 3 => RX3 | 4 => RX4 | 5 => RX5 | 6 => RX6 | 7 => RX6 | _ => RL
def tN_ : Nat → u_T := fun k => match k with | 0 => TX0 | 1 => TX1 | 2 => TX2 | 3 => TX3 | 4 => TX4 | 5 => TX5 | _ => TX6
def nF : Nat → Nat := fun k => match k with | 0 => 14 | 1 => 6 | 2 => 7 | 3 => 5 | 4 => 10 | 5 => 6 | 6 => 6 | _ => 6
/-- the kind of a field: 0 int, 1 boolean, 2 long, 3 a reference -/
def fKs : List (List Nat) := [[3, 0, 3, 0, 0, 3, 0, 0, 0, 1, 0, 0, 0, 0], [3, 0, 3, 0, 0, 0], [0, 0, 1, 0, 3, 0, 0], [1, 0, 0, 0, 2], [3, 0, 0, 0, 0, 0, 0, 0, 0, 2], [0, 0, 0, 3, 3, 3], [3, 3, 3, 3, 0, 3], [3, 3, 3, 3, 0, 3]]
def fK (ci k : Nat) : Nat := (fKs.getD ci []).getD k 0
def eN : Nat → String := fun k => match k with | 0 => "java/lang/IllegalArgumentException" | 1 => "java/lang/IllegalStateException" | _ => "java/lang/IndexOutOfBoundsException"
abbrev MT : Type := MethodName × ByteArray × Nat × Option FieldType × List (Nat × Nat × Nat × Nat) × Nat × Nat × Nat × Nat × Bool × Nat × Nat × Nat × Nat
/-- name, code, locals, answer, handlers, owner, frames, local words, parameters, static, places of the words: code, kind, selects, initialized -/
def mT_0 : List MT := [(yX3_init, cX3_init, 1, none, [], 3, 1, 20, 0, false, 156, 155, 0, 87),
  (yX3_copyFrom, cX3_copyFrom, 2, none, [], 3, 0, 0, 1, false, 374, 373, 5, 87),
  (yX3_header, cX3_header, 1, (some .int), [], 3, 0, 0, 0, false, 446, 445, 20, 87),
  (yX3_byteAt, cX3_byteAt, 2, (some .int), [], 3, 0, 0, 1, false, 450, 449, 21, 87),
  (yX3_tell, cX3_tell, 2, (some .int), [], 3, 1, 21, 1, false, 737, 736, 53, 87),
  (yX1_init, cX1_init, 2, none, [], 1, 2, 40, 0, false, 149, 148, 0, 86),
  (yX1_copyFrom, cX1_copyFrom, 5, none, [], 1, 2, 47, 1, false, 370, 369, 4, 86),
  (yX1_messageAt, cX1_messageAt, 2, (some (.object "TwoWires$Message")), [], 1, 0, 0, 1, false, 418, 417, 13, 86),
  (yX1_enqueue, cX1_enqueue, 7, (some .boolean), [], 1, 0, 0, 4, false, 865, 864, 63, 86),
  (yX1_takeBack, cX1_takeBack, 2, (some .int), [], 1, 1, 21, 0, false, 888, 887, 64, 86),
  (yX1_endFirst, cX1_endFirst, 4, none, [], 1, 0, 0, 1, false, 463, 462, 24, 86),
  (yX1_loseBit, cX1_loseBit, 3, none, [], 1, 1, 23, 1, false, 458, 457, 23, 86),
  (yX1_receiveByte, cX1_receiveByte, 2, none, [], 1, 0, 0, 1, false, 487, 486, 30, 86),
  (yX1_tell, cX1_tell, 2, (some .int), [], 1, 0, 0, 1, false, 712, 711, 51, 86),
  (yX2_init, cX2_init, 1, none, [], 2, 1, 20, 0, false, 205, 204, 0, 88)]
def mT_1 : List MT := [(yX2_copyFrom, cX2_copyFrom, 2, none, [], 2, 2, 47, 1, false, 387, 386, 6, 88),
  (yX2_forget, cX2_forget, 2, (some .int), [], 2, 0, 0, 0, false, 841, 840, 61, 88),
  (yX2_byteAt, cX2_byteAt, 2, (some .int), [], 2, 0, 0, 1, false, 516, 515, 37, 88),
  (yX2_storeByte, cX2_storeByte, 2, (some .boolean), [], 2, 0, 0, 1, false, 536, 535, 42, 88),
  (yX2_movePointer, cX2_movePointer, 1, none, [], 2, 0, 0, 0, false, 483, 482, 29, 88),
  (yX2_tell, cX2_tell, 2, (some .int), [], 2, 0, 0, 1, false, 755, 754, 55, 88),
  (yX5_init, cX5_init, 1, none, [], 5, 1, 20, 0, false, 120, 119, 0, 85),
  (yX5_copyFrom, cX5_copyFrom, 2, none, [], 5, 2, 47, 1, false, 392, 391, 7, 85),
  (yX5_keptCount, cX5_keptCount, 1, (some .int), [], 5, 1, 21, 0, false, 775, 774, 56, 85),
  (yX5_keep, cX5_keep, 5, none, [], 5, 0, 0, 3, false, 548, 547, 45, 85),
  (yX5_tell, cX5_tell, 4, (some .int), [], 5, 0, 0, 2, false, 651, 650, 49, 85),
  (yX5_lastLevel, cX5_lastLevel, 1, (some .int), [], 5, 1, 23, 0, false, 647, 646, 48, 85),
  (yX0_init, cX0_init, 2, none, [], 0, 3, 61, 0, false, 110, 109, 0, 84),
  (yX0_copyFrom, cX0_copyFrom, 5, none, [], 0, 3, 71, 1, false, 366, 365, 3, 84),
  (yX0_copyTransfer, cX0_copyTransfer, 2, none, [], 0, 0, 0, 1, false, 397, 396, 8, 84)]
def mT_2 : List MT := [(yX0_callerAt, cX0_callerAt, 2, (some (.object "TwoWires$Caller")), [], 0, 0, 0, 1, false, 414, 413, 12, 84),
  (yX0_listenerAt, cX0_listenerAt, 2, (some (.object "TwoWires$Listener")), [], 0, 0, 0, 1, false, 479, 478, 28, 84),
  (yX0_firstMessage, cX0_firstMessage, 3, (some (.object "TwoWires$Message")), [], 0, 1, 21, 1, false, 410, 409, 11, 84),
  (yX0_contends, cX0_contends, 2, (some .boolean), [], 0, 0, 0, 1, false, 438, 437, 18, 84),
  (yX0_listenerWith, cX0_listenerWith, 4, (some .int), [], 0, 1, 21, 1, false, 499, 498, 33, 84),
  (yX0_answererTo, cX0_answererTo, 4, (some .int), [], 0, 2, 44, 1, false, 495, 494, 32, 84),
  (yX0_placeListener, cX0_placeListener, 5, (some .int), [], 0, 0, 0, 2, false, 818, 817, 59, 84),
  (yX0_listenersOn, cX0_listenersOn, 4, (some .int), [], 0, 1, 21, 0, false, 830, 829, 60, 84),
  (yX0_tell, cX0_tell, 2, (some .int), [], 0, 2, 43, 1, false, 643, 642, 47, 84),
  (yX0_callersWithMessages, cX0_callersWithMessages, 3, (some .int), [], 0, 2, 43, 0, false, 406, 405, 10, 84),
  (yX0_lowestHeaders, cX0_lowestHeaders, 5, (some .int), [], 0, 2, 43, 0, false, 942, 941, 67, 84),
  (yX0_slotsAlone, cX0_slotsAlone, 5, (some .int), [], 0, 3, 67, 1, false, 724, 723, 52, 84),
  (yX0_passSlots, cX0_passSlots, 3, none, [], 0, 5, 112, 1, false, 899, 898, 65, 84),
  (yX0_runToRest, cX0_runToRest, 2, (some .int), [], 0, 5, 112, 0, false, 401, 400, 9, 84),
  (yX0_passSlot, cX0_passSlot, 3, none, [], 0, 4, 90, 0, false, 422, 421, 14, 84)]
def mT_3 : List MT := [(yX0_startTransfer, cX0_startTransfer, 1, (some .int), [], 0, 3, 65, 0, false, 426, 425, 15, 84),
  (yX0_expectBits, cX0_expectBits, 2, none, [], 0, 0, 0, 1, false, 430, 429, 16, 84),
  (yX0_sendBits, cX0_sendBits, 3, (some .int), [], 0, 3, 68, 0, false, 434, 433, 17, 84),
  (yX0_sentBit, cX0_sentBit, 3, (some .int), [], 0, 1, 21, 1, false, 442, 441, 19, 84),
  (yX0_loseBits, cX0_loseBits, 4, none, [], 0, 2, 45, 1, false, 454, 453, 22, 84),
  (yX0_readBit, cX0_readBit, 3, (some .int), [], 0, 1, 21, 0, false, 512, 511, 36, 84),
  (yX0_takeBit, cX0_takeBit, 2, (some .int), [], 0, 3, 64, 1, false, 467, 466, 25, 84),
  (yX0_endBits, cX0_endBits, 1, none, [], 0, 2, 44, 0, false, 471, 470, 26, 84),
  (yX0_receiveLevels, cX0_receiveLevels, 4, none, [], 0, 1, 21, 0, false, 475, 474, 27, 84),
  (yX0_answerHeader, cX0_answerHeader, 1, (some .int), [], 0, 3, 67, 0, false, 491, 490, 31, 84),
  (yX0_answerWrite, cX0_answerWrite, 2, (some .int), [], 0, 3, 68, 0, false, 532, 531, 41, 84),
  (yX0_answerRead, cX0_answerRead, 2, (some .int), [], 0, 3, 68, 0, false, 520, 519, 38, 84),
  (yX0_contendersWithMoreBytes, cX0_contendersWithMoreBytes, 4, (some .int), [], 0, 2, 43, 0, false, 524, 523, 39, 84),
  (yX0_goOnWith, cX0_goOnWith, 2, none, [], 0, 2, 47, 1, false, 528, 527, 40, 84),
  (yX0_endMessages, cX0_endMessages, 5, none, [], 0, 1, 23, 2, false, 503, 502, 34, 84)]
def mT_4 : List MT := [(yX0_holdLine, cX0_holdLine, 2, none, [], 0, 1, 21, 0, false, 508, 507, 35, 84),
  (yX0_holdSlot, cX0_holdSlot, 2, (some .int), [], 0, 1, 21, 0, false, 540, 539, 43, 84),
  (yX0_stopTransfer, cX0_stopTransfer, 1, none, [], 0, 0, 0, 0, false, 544, 543, 44, 84),
  (yX4_init, cX4_init, 1, none, [], 4, 1, 20, 0, false, 289, 288, 0, 89),
  (yX4_add, cX4_add, 2, (some .int), [], 4, 0, 0, 1, false, 918, 917, 66, 89),
  (yX4_rewind, cX4_rewind, 1, none, [], 4, 0, 0, 0, false, 961, 960, 69, 89),
  (yX4_findError, cX4_findError, 2, (some .int), [], 4, 5, 102, 0, false, 957, 956, 68, 89),
  (yX4_nextOrder, cX4_nextOrder, 1, (some .boolean), [], 4, 4, 82, 0, false, 965, 964, 70, 89),
  (yX4_readTarget, cX4_readTarget, 1, (some .boolean), [], 4, 3, 62, 0, false, 973, 972, 72, 89),
  (yX4_readBytes, cX4_readBytes, 1, (some .boolean), [], 4, 2, 44, 0, false, 1000, 999, 78, 89),
  (yX4_readCount, cX4_readCount, 2, (some .boolean), [], 4, 2, 44, 0, false, 1004, 1003, 79, 89),
  (yX4_readSlots, cX4_readSlots, 2, (some .boolean), [], 4, 2, 44, 0, false, 1008, 1007, 80, 89),
  (yX4_readNumber, cX4_readNumber, 4, (some .boolean), [], 4, 1, 21, 2, false, 993, 992, 77, 89),
  (yX4_readDigit, cX4_readDigit, 4, (some .boolean), [], 4, 1, 21, 2, false, 977, 976, 73, 89),
  (yX4_take, cX4_take, 2, (some .boolean), [], 4, 2, 41, 1, false, 985, 984, 75, 89)]
def mT_5 : List MT := [(yX4_takeIfThere, cX4_takeIfThere, 2, (some .boolean), [], 4, 1, 20, 1, false, 989, 988, 76, 89),
  (yX4_fail, cX4_fail, 2, (some .boolean), [], 4, 0, 0, 1, false, 981, 980, 74, 89),
  (yX4_isDigit, cX4_isDigit, 1, (some .boolean), [], 4, 0, 0, 1, true, 996, 995, 0, 89),
  (yX4_nextByte, cX4_nextByte, 1, (some .int), [], 4, 0, 0, 0, false, 969, 968, 71, 89),
  (yX6_init, cX6_init, 2, none, [], 6, 4, 82, 0, false, 102, 101, 0, 83),
  (yX6_begin, cX6_begin, 3, (some .int), [], 6, 7, 116, 1, false, 561, 559, 560, 83),
  (yX6_addListener, cX6_addListener, 3, (some .int), [], 6, 7, 116, 2, false, 811, 809, 810, 83),
  (yX6_turn, cX6_turn, 4, (some .int), [], 6, 7, 116, 2, false, 825, 823, 824, 83),
  (yX6_empty, cX6_empty, 3, (some .int), [], 6, 7, 116, 1, false, 837, 835, 836, 83),
  (yX6_setLimit, cX6_setLimit, 3, (some .int), [], 6, 7, 116, 1, false, 848, 846, 847, 83),
  (yX6_write, cX6_write, 7, (some .int), [], 6, 7, 142, 4, false, 855, 853, 854, 83),
  (yX6_read, cX6_read, 5, (some .int), [], 6, 7, 142, 3, false, 875, 873, 874, 83),
  (yX6_cancel, cX6_cancel, 3, (some .int), [], 6, 7, 116, 1, false, 882, 880, 881, 83),
  (yX6_pass, cX6_pass, 2, (some .int), [], 6, 7, 134, 1, false, 895, 893, 894, 83),
  (yX6_finish, cX6_finish, 1, (some .int), [], 6, 6, 133, 0, false, 350, 348, 349, 83)]
def mT_6 : List MT := [(yX6_caller, cX6_caller, 4, (some .int), [], 6, 7, 112, 2, false, 686, 684, 685, 83),
  (yX6_message, cX6_message, 5, (some .int), [], 6, 7, 112, 3, false, 732, 730, 731, 83),
  (yX6_listener, cX6_listener, 4, (some .int), [], 6, 7, 112, 2, false, 745, 743, 744, 83),
  (yX6_memory, cX6_memory, 4, (some .int), [], 6, 7, 112, 2, false, 762, 760, 761, 83),
  (yX6_value, cX6_value, 2, (some .int), [], 6, 7, 112, 1, false, 639, 637, 638, 83),
  (yX6_log, cX6_log, 3, (some .int), [], 6, 7, 112, 2, false, 771, 769, 770, 83),
  (yX6_slotsToFinish, cX6_slotsToFinish, 1, (some .int), [], 6, 7, 153, 0, false, 928, 926, 927, 83),
  (yX6_alone, cX6_alone, 3, (some .int), [], 6, 7, 112, 1, false, 719, 717, 718, 83),
  (yX6_winners, cX6_winners, 1, (some .int), [], 6, 3, 67, 0, false, 938, 936, 937, 83),
  (yX6_delivers, cX6_delivers, 4, (some .int), [], 6, 7, 153, 1, false, 906, 904, 905, 83),
  (yL_cell, cL_cell, 2, (some .int), [], 8, 0, 0, 2, true, 551, 550, 0, 82),
  (yX6_append, cX6_append, 2, (some .int), [], 6, 7, 112, 1, false, 913, 911, 912, 83),
  (yX6_clearText, cX6_clearText, 2, (some .int), [], 6, 0, 0, 0, false, 949, 947, 948, 83),
  (yX6_carryOut, cX6_carryOut, 3, (some .int), [], 6, 7, 155, 0, false, 953, 951, 952, 83),
  (yX6_undo, cX6_undo, 2, (some .int), [], 6, 6, 95, 0, false, 659, 657, 658, 83)]
def mT_7 : List MT := [(yX6_digest, cX6_digest, 5, (some .long), [], 6, 7, 153, 0, false, 785, 783, 784, 83),
  (yX6_mix, cX6_mix, 3, (some .long), [], 6, 0, 0, 2, true, 789, 788, 0, 83),
  (yX6_mixCaller, cX6_mixCaller, 6, (some .long), [], 6, 3, 65, 2, false, 794, 793, 57, 83),
  (yX6_mixMessage, cX6_mixMessage, 4, (some .long), [], 6, 2, 42, 2, true, 797, 796, 0, 83),
  (yX6_mixListener, cX6_mixListener, 4, (some .long), [], 6, 1, 22, 2, true, 800, 799, 0, 83),
  (yX6_requireRange, cX6_requireRange, 3, none, [], 6, 6, 90, 3, true, 564, 563, 0, 83),
  (yX6_callerOrThrow, cX6_callerOrThrow, 3, (some (.object "TwoWires$Caller")), [], 6, 6, 90, 1, false, 690, 689, 50, 83),
  (yX6_listenerOrThrow, cX6_listenerOrThrow, 3, (some (.object "TwoWires$Listener")), [], 6, 6, 90, 1, false, 749, 748, 54, 83),
  (yX6_queueMessage, cX6_queueMessage, 7, (some .int), [], 6, 6, 116, 5, false, 860, 859, 62, 83),
  (yX6_obeyOrder, cX6_obeyOrder, 2, (some .boolean), [], 6, 6, 134, 0, false, 1014, 1013, 81, 83),
  (yX6_runTrial, cX6_runTrial, 1, (some .int), [], 6, 6, 133, 0, false, 804, 803, 58, 83),
  (yX6_saveState, cX6_saveState, 2, none, [], 6, 4, 95, 0, false, 354, 353, 0, 83),
  (yX6_dropOldestState, cX6_dropOldestState, 3, none, [], 6, 0, 0, 0, false, 358, 357, 1, 83),
  (yX6_savedAt, cX6_savedAt, 2, (some (.object "TwoWires$Bus")), [], 6, 0, 0, 1, false, 362, 361, 2, 83),
  (yX6_copyNumbers, cX6_copyNumbers, 2, none, [], 6, 1, 26, 2, true, 377, 376, 0, 83)]
def mT_8 : List MT := [(yL_begin, cL_begin, 3, (some .int), [(0, 5, 6, 15)], 8, 8, 138, 2, true, 556, 555, 0, 82),
  (yL_addListener, cL_addListener, 4, (some .int), [(0, 6, 7, 15), (0, 6, 11, 21)], 8, 8, 138, 3, true, 807, 806, 0, 82),
  (yL_turn, cL_turn, 4, (some .int), [(0, 6, 7, 27), (0, 6, 11, 21)], 8, 8, 139, 3, true, 821, 820, 0, 82),
  (yL_empty, cL_empty, 3, (some .int), [(0, 5, 6, 27)], 8, 8, 138, 2, true, 833, 832, 0, 82),
  (yL_setLimit, cL_setLimit, 3, (some .int), [(0, 5, 6, 15)], 8, 8, 138, 2, true, 844, 843, 0, 82),
  (yL_write, cL_write, 7, (some .int), [(0, 9, 10, 27), (0, 9, 15, 15), (0, 9, 20, 21)], 8, 8, 168, 5, true, 851, 850, 0, 82),
  (yL_read, cL_read, 5, (some .int), [(0, 7, 8, 27), (0, 7, 13, 15), (0, 7, 18, 21)], 8, 8, 166, 4, true, 871, 870, 0, 82),
  (yL_cancel, cL_cancel, 3, (some .int), [(0, 5, 6, 27), (0, 5, 10, 21)], 8, 8, 138, 2, true, 878, 877, 0, 82),
  (yL_pass, cL_pass, 3, (some .int), [(0, 5, 6, 15)], 8, 8, 155, 2, true, 891, 890, 0, 82),
  (yL_caller, cL_caller, 4, (some .int), [(0, 6, 7, 27), (0, 6, 11, 15)], 8, 8, 135, 3, true, 681, 680, 0, 82),
  (yL_message, cL_message, 5, (some .int), [(0, 7, 8, 27), (0, 7, 13, 15)], 8, 8, 136, 4, true, 728, 727, 0, 82),
  (yL_listener, cL_listener, 4, (some .int), [(0, 6, 7, 27), (0, 6, 11, 15)], 8, 8, 135, 3, true, 741, 740, 0, 82),
  (yL_memory, cL_memory, 4, (some .int), [(0, 6, 7, 27)], 8, 8, 135, 3, true, 758, 757, 0, 82),
  (yL_value, cL_value, 3, (some .int), [(0, 5, 6, 15)], 8, 8, 133, 2, true, 635, 634, 0, 82),
  (yL_log, cL_log, 4, (some .int), [(0, 6, 7, 27), (0, 6, 11, 15)], 8, 8, 134, 3, true, 767, 766, 0, 82)]
def mT_9 : List MT := [(yL_alone, cL_alone, 3, (some .int), [(0, 5, 6, 27)], 8, 8, 134, 2, true, 715, 714, 0, 82),
  (yL_delivers, cL_delivers, 3, (some .int), [(0, 5, 6, 27)], 8, 8, 176, 2, true, 902, 901, 0, 82),
  (yL_append, cL_append, 3, (some .int), [(0, 5, 6, 15), (0, 5, 10, 21)], 8, 8, 133, 2, true, 909, 908, 0, 82),
  (yL_undo, cL_undo, 2, (some .int), [(0, 4, 5, 21)], 8, 7, 116, 1, true, 654, 653, 0, 82),
  (yL_queued, cL_queued, 3, (some .int), [], 8, 9, 158, 1, true, 931, 930, 0, 82),
  (yL_isSound, cL_isSound, 7, (some .boolean), [], 8, 9, 160, 1, true, 678, 677, 0, 82),
  (yL_finishes, cL_finishes, 13, (some .boolean), [], 8, 10, 198, 3, true, 924, 923, 0, 82),
  (yL_wins, cL_wins, 6, (some .boolean), [], 8, 10, 180, 2, true, 934, 933, 0, 82),
  (yL_carries, cL_carries, 10, (some .boolean), [], 8, 10, 180, 4, true, 945, 944, 0, 82),
  (yL_refuses, cL_refuses, 6, (some .boolean), [], 8, 9, 198, 1, true, 781, 780, 0, 82),
  (yL_acts, cL_acts, 5, (some .boolean), [], 8, 11, 230, 2, true, 921, 920, 0, 82)]
def mTabA : List MT := mT_0 ++ (mT_1 ++ (mT_2 ++ (mT_3 ++ (mT_4 ++ (mT_5 ++ (mT_6 ++ (mT_7 ++ (mT_8 ++ (mT_9)))))))))
def mT_law : MT := (yL_law, cL_law, 4, (some .boolean), [], 8, 12, 254, 1, false, 0, 0, 0, 82)
def mTab : List MT := mTabA ++ [mT_law]
abbrev m_Message_init : Nat := 0
abbrev m_Message_copyFrom : Nat := 1
abbrev m_Message_header : Nat := 2
abbrev m_Message_byteAt : Nat := 3
abbrev m_Message_tell : Nat := 4
abbrev m_Caller_init : Nat := 5
abbrev m_Caller_copyFrom : Nat := 6
abbrev m_Caller_messageAt : Nat := 7
abbrev m_Caller_enqueue : Nat := 8
abbrev m_Caller_takeBack : Nat := 9
abbrev m_Caller_endFirst : Nat := 10
abbrev m_Caller_loseBit : Nat := 11
abbrev m_Caller_receiveByte : Nat := 12
abbrev m_Caller_tell : Nat := 13
abbrev m_Listener_init : Nat := 14
abbrev m_Listener_copyFrom : Nat := 15
abbrev m_Listener_forget : Nat := 16
abbrev m_Listener_byteAt : Nat := 17
abbrev m_Listener_storeByte : Nat := 18
abbrev m_Listener_movePointer : Nat := 19
abbrev m_Listener_tell : Nat := 20
abbrev m_Log_init : Nat := 21
abbrev m_Log_copyFrom : Nat := 22
abbrev m_Log_keptCount : Nat := 23
abbrev m_Log_keep : Nat := 24
abbrev m_Log_tell : Nat := 25
abbrev m_Log_lastLevel : Nat := 26
abbrev m_Bus_init : Nat := 27
abbrev m_Bus_copyFrom : Nat := 28
abbrev m_Bus_copyTransfer : Nat := 29
abbrev m_Bus_callerAt : Nat := 30
abbrev m_Bus_listenerAt : Nat := 31
abbrev m_Bus_firstMessage : Nat := 32
abbrev m_Bus_contends : Nat := 33
abbrev m_Bus_listenerWith : Nat := 34
abbrev m_Bus_answererTo : Nat := 35
abbrev m_Bus_placeListener : Nat := 36
abbrev m_Bus_listenersOn : Nat := 37
abbrev m_Bus_tell : Nat := 38
abbrev m_Bus_callersWithMessages : Nat := 39
abbrev m_Bus_lowestHeaders : Nat := 40
abbrev m_Bus_slotsAlone : Nat := 41
abbrev m_Bus_passSlots : Nat := 42
abbrev m_Bus_runToRest : Nat := 43
abbrev m_Bus_passSlot : Nat := 44
abbrev m_Bus_startTransfer : Nat := 45
abbrev m_Bus_expectBits : Nat := 46
abbrev m_Bus_sendBits : Nat := 47
abbrev m_Bus_sentBit : Nat := 48
abbrev m_Bus_loseBits : Nat := 49
abbrev m_Bus_readBit : Nat := 50
abbrev m_Bus_takeBit : Nat := 51
abbrev m_Bus_endBits : Nat := 52
abbrev m_Bus_receiveLevels : Nat := 53
abbrev m_Bus_answerHeader : Nat := 54
abbrev m_Bus_answerWrite : Nat := 55
abbrev m_Bus_answerRead : Nat := 56
abbrev m_Bus_contendersWithMoreBytes : Nat := 57
abbrev m_Bus_goOnWith : Nat := 58
abbrev m_Bus_endMessages : Nat := 59
abbrev m_Bus_holdLine : Nat := 60
abbrev m_Bus_holdSlot : Nat := 61
abbrev m_Bus_stopTransfer : Nat := 62
abbrev m_Text_init : Nat := 63
abbrev m_Text_add : Nat := 64
abbrev m_Text_rewind : Nat := 65
abbrev m_Text_findError : Nat := 66
abbrev m_Text_nextOrder : Nat := 67
abbrev m_Text_readTarget : Nat := 68
abbrev m_Text_readBytes : Nat := 69
abbrev m_Text_readCount : Nat := 70
abbrev m_Text_readSlots : Nat := 71
abbrev m_Text_readNumber : Nat := 72
abbrev m_Text_readDigit : Nat := 73
abbrev m_Text_take : Nat := 74
abbrev m_Text_takeIfThere : Nat := 75
abbrev m_Text_fail : Nat := 76
abbrev m_Text_isDigit : Nat := 77
abbrev m_Text_nextByte : Nat := 78
abbrev m_Two_init : Nat := 79
abbrev m_Two_begin : Nat := 80
abbrev m_Two_addListener : Nat := 81
abbrev m_Two_turn : Nat := 82
abbrev m_Two_empty : Nat := 83
abbrev m_Two_setLimit : Nat := 84
abbrev m_Two_write : Nat := 85
abbrev m_Two_read : Nat := 86
abbrev m_Two_cancel : Nat := 87
abbrev m_Two_pass : Nat := 88
abbrev m_Two_finish : Nat := 89
abbrev m_Two_caller : Nat := 90
abbrev m_Two_message : Nat := 91
abbrev m_Two_listener : Nat := 92
abbrev m_Two_memory : Nat := 93
abbrev m_Two_value : Nat := 94
abbrev m_Two_log : Nat := 95
abbrev m_Two_slotsToFinish : Nat := 96
abbrev m_Two_alone : Nat := 97
abbrev m_Two_winners : Nat := 98
abbrev m_Two_delivers : Nat := 99
abbrev m_Law_cell : Nat := 100
abbrev m_Two_append : Nat := 101
abbrev m_Two_clearText : Nat := 102
abbrev m_Two_carryOut : Nat := 103
abbrev m_Two_undo : Nat := 104
abbrev m_Two_digest : Nat := 105
abbrev m_Two_mix : Nat := 106
abbrev m_Two_mixCaller : Nat := 107
abbrev m_Two_mixMessage : Nat := 108
abbrev m_Two_mixListener : Nat := 109
abbrev m_Two_requireRange : Nat := 110
abbrev m_Two_callerOrThrow : Nat := 111
abbrev m_Two_listenerOrThrow : Nat := 112
abbrev m_Two_queueMessage : Nat := 113
abbrev m_Two_obeyOrder : Nat := 114
abbrev m_Two_runTrial : Nat := 115
abbrev m_Two_saveState : Nat := 116
abbrev m_Two_dropOldestState : Nat := 117
abbrev m_Two_savedAt : Nat := 118
abbrev m_Two_copyNumbers : Nat := 119
abbrev m_Law_begin : Nat := 120
abbrev m_Law_addListener : Nat := 121
abbrev m_Law_turn : Nat := 122
abbrev m_Law_empty : Nat := 123
abbrev m_Law_setLimit : Nat := 124
abbrev m_Law_write : Nat := 125
abbrev m_Law_read : Nat := 126
abbrev m_Law_cancel : Nat := 127
abbrev m_Law_pass : Nat := 128
abbrev m_Law_caller : Nat := 129
abbrev m_Law_message : Nat := 130
abbrev m_Law_listener : Nat := 131
abbrev m_Law_memory : Nat := 132
abbrev m_Law_value : Nat := 133
abbrev m_Law_log : Nat := 134
abbrev m_Law_alone : Nat := 135
abbrev m_Law_delivers : Nat := 136
abbrev m_Law_append : Nat := 137
abbrev m_Law_undo : Nat := 138
abbrev m_Law_queued : Nat := 139
abbrev m_Law_isSound : Nat := 140
abbrev m_Law_finishes : Nat := 141
abbrev m_Law_wins : Nat := 142
abbrev m_Law_carries : Nat := 143
abbrev m_Law_refuses : Nat := 144
abbrev m_Law_acts : Nat := 145
abbrev m_Law_law : Nat := 146
/-- fields by owner and index: class, place, place of the link, a nest link -/
def fT : List (Nat × Nat × Nat × Nat × Nat × Bool) := [(0, 11, 0, 0, 237, false), (0, 17, 0, 1, 238, false), (0, 23, 0, 2, 240, false), (0, 27, 0, 3, 241, false), (0, 30, 0, 4, 243, false), (0, 36, 0, 5, 245, false), (0, 40, 0, 6, 247, false), (0, 43, 0, 7, 248, false), (0, 46, 0, 8, 249, false), (0, 49, 0, 9, 250, false), (0, 53, 0, 10, 251, false), (0, 56, 0, 11, 252, false), (0, 59, 0, 12, 253, false), (0, 62, 0, 13, 254, false), (0, 93, 2, 0, 208, true), (0, 100, 2, 2, 213, true), (0, 103, 2, 1, 210, true), (0, 106, 5, 0, 124, true), (0, 109, 5, 1, 126, true), (0, 112, 5, 2, 128, true), (0, 127, 3, 1, 163, true), (0, 131, 3, 2, 166, true), (0, 134, 3, 0, 160, true), (0, 137, 2, 5, 219, true), (0, 205, 2, 6, 221, true), (0, 240, 2, 3, 215, true), (1, 11, 1, 0, 182, false), (1, 17, 1, 1, 183, false), (1, 21, 1, 2, 185, false), (1, 25, 1, 3, 186, false), (1, 28, 1, 4, 187, false), (1, 31, 1, 5, 188, false), (1, 43, 3, 0, 159, true), (1, 47, 3, 1, 162, true), (1, 50, 3, 2, 165, true), (1, 53, 3, 3, 168, true), (1, 54, 3, 4, 170, true), (2, 9, 2, 0, 207, false), (2, 15, 2, 1, 209, false), (2, 18, 2, 2, 211, false), (2, 22, 2, 3, 214, false), (2, 25, 2, 4, 216, false), (2, 29, 2, 5, 217, false), (2, 32, 2, 6, 220, false), (3, 9, 3, 0, 158, false), (3, 15, 3, 1, 161, false), (3, 19, 3, 2, 164, false), (3, 22, 3, 3, 167, false), (3, 25, 3, 4, 169, false), (4, 9, 4, 0, 291, false), (4, 15, 4, 1, 292, false), (4, 19, 4, 2, 294, false), (4, 22, 4, 3, 295, false), (4, 25, 4, 4, 296, false), (4, 28, 4, 5, 297, false), (4, 31, 4, 6, 299, false), (4, 34, 4, 7, 301, false), (4, 37, 4, 8, 303, false), (4, 40, 4, 9, 305, false), (5, 9, 5, 0, 122, false), (5, 15, 5, 1, 125, false), (5, 18, 5, 2, 127, false), (5, 21, 5, 3, 129, false), (5, 25, 5, 4, 130, false), (5, 28, 5, 5, 131, false), (6, 10, 6, 0, 328, false), (6, 16, 6, 1, 329, false), (6, 19, 6, 2, 330, false), (6, 22, 6, 3, 331, false), (6, 26, 6, 4, 332, false), (6, 33, 6, 5, 333, false), (6, 41, 0, 5, 246, true), (6, 45, 5, 0, 123, true), (6, 57, 0, 1, 239, true), (6, 60, 0, 3, 242, true), (6, 84, 2, 2, 212, true), (6, 99, 0, 4, 244, true), (6, 115, 1, 1, 184, true), (6, 154, 2, 5, 218, true), (6, 184, 4, 1, 293, true), (6, 245, 4, 5, 298, true), (6, 248, 4, 8, 304, true), (6, 251, 4, 6, 300, true), (6, 254, 4, 7, 302, true), (6, 257, 4, 9, 306, true)]
/-- calls by owner and index: method, kind, place of the link -/
def cT : List (Nat × Nat × Nat × Nat × Nat) := [(0, 3, 999, 7, 111), (0, 35, 21, 6, 118), (0, 65, 5, 6, 147), (0, 66, 14, 6, 203), (0, 67, 6, 1, 367), (0, 71, 15, 1, 384), (0, 74, 22, 1, 389), (0, 77, 29, 0, 394), (0, 81, 30, 0, 411), (0, 85, 7, 1, 415), (0, 89, 31, 0, 476), (0, 96, 34, 0, 496), (0, 115, 26, 1, 644), (0, 119, 32, 0, 407), (0, 122, 2, 1, 443), (0, 128, 35, 0, 492), (0, 140, 999, 8, 725), (0, 146, 44, 0, 419), (0, 150, 39, 0, 403), (0, 153, 45, 0, 423), (0, 156, 47, 0, 431), (0, 159, 51, 0, 464), (0, 162, 54, 0, 488), (0, 165, 50, 0, 509), (0, 168, 56, 0, 517), (0, 171, 55, 0, 529), (0, 174, 61, 0, 537), (0, 177, 62, 0, 541), (0, 180, 24, 1, 545), (0, 184, 46, 0, 427), (0, 188, 33, 0, 435), (0, 192, 48, 0, 439), (0, 196, 49, 0, 451), (0, 199, 3, 1, 447), (0, 202, 11, 1, 455), (0, 208, 17, 1, 513), (0, 209, 52, 0, 468), (0, 212, 53, 0, 472), (0, 215, 19, 1, 480), (0, 218, 12, 1, 484), (0, 221, 59, 0, 500), (0, 225, 60, 0, 505), (0, 228, 18, 1, 533), (0, 231, 57, 0, 521), (0, 234, 58, 0, 525), (0, 237, 10, 1, 504), (1, 3, 999, 7, 150), (1, 34, 0, 6, 154), (1, 35, 1, 1, 371), (1, 39, 119, 3, 375), (1, 58, 7, 0, 459), (1, 62, 10, 0, 460), (2, 3, 999, 7, 206), (2, 35, 119, 3, 388), (3, 3, 999, 7, 157), (3, 29, 3, 0, 738), (4, 3, 999, 7, 290), (4, 44, 65, 0, 958), (4, 47, 67, 0, 962), (4, 51, 78, 0, 966), (4, 55, 68, 0, 970), (4, 58, 74, 0, 982), (4, 62, 69, 0, 997), (4, 65, 70, 0, 1001), (4, 68, 71, 0, 1005), (4, 71, 76, 0, 978), (4, 74, 73, 0, 974), (4, 78, 72, 0, 990), (4, 81, 75, 0, 986), (4, 84, 77, 2, 994), (5, 3, 999, 7, 121), (5, 31, 119, 3, 393), (5, 35, 999, 8, 776), (5, 41, 25, 0, 648), (6, 1, 999, 7, 103), (6, 9, 27, 6, 108), (6, 32, 63, 6, 287), (6, 37, 110, 2, 562), (6, 50, 116, 0, 351), (6, 53, 28, 1, 363), (6, 70, 34, 1, 813), (6, 76, 36, 1, 815), (6, 80, 112, 0, 746), (6, 92, 37, 1, 827), (6, 96, 16, 1, 838), (6, 102, 111, 0, 687), (6, 111, 113, 0, 857), (6, 122, 33, 1, 708), (6, 128, 9, 1, 885), (6, 131, 42, 1, 896), (6, 135, 43, 1, 398), (6, 138, 13, 1, 709), (6, 141, 7, 1, 720), (6, 150, 4, 1, 734), (6, 153, 20, 1, 752), (6, 157, 17, 1, 764), (6, 160, 38, 1, 640), (6, 161, 23, 1, 772), (6, 166, 25, 1, 778), (6, 168, 115, 0, 801), (6, 171, 41, 1, 721), (6, 175, 40, 1, 939), (6, 178, 30, 1, 691), (6, 189, 64, 1, 915), (6, 192, 66, 1, 954), (6, 195, 65, 1, 1009), (6, 198, 67, 1, 1010), (6, 202, 114, 0, 1011), (6, 205, 118, 0, 359), (6, 213, 106, 2, 787), (6, 217, 107, 0, 791), (6, 220, 31, 1, 750), (6, 223, 109, 2, 798), (6, 229, 108, 2, 795), (6, 241, 8, 1, 862), (6, 261, 117, 0, 355), (6, 264, 999, 8, 378), (6, 269, 999, 9, 381), (8, 9, 80, 0, 558), (8, 17, 81, 0, 808), (8, 23, 82, 0, 822), (8, 29, 83, 0, 834), (8, 32, 84, 0, 845), (8, 35, 85, 0, 852), (8, 39, 86, 0, 872), (8, 43, 87, 0, 879), (8, 46, 88, 0, 892), (8, 49, 90, 0, 683), (8, 52, 91, 0, 729), (8, 55, 92, 0, 742), (8, 58, 93, 0, 759), (8, 61, 94, 0, 636), (8, 64, 95, 0, 768), (8, 67, 97, 0, 716), (8, 70, 99, 0, 903), (8, 73, 101, 0, 910), (8, 76, 104, 0, 656), (8, 80, 133, 4, 633), (8, 85, 129, 4, 679), (8, 88, 135, 4, 713), (8, 90, 130, 4, 726), (8, 93, 131, 4, 739), (8, 95, 132, 4, 756), (8, 97, 134, 4, 765), (8, 99, 96, 0, 925), (8, 102, 136, 4, 900), (8, 104, 139, 2, 929), (8, 108, 89, 0, 347), (8, 111, 138, 4, 652), (8, 113, 128, 4, 889), (8, 115, 98, 0, 935), (8, 118, 102, 0, 946), (8, 121, 103, 0, 950), (8, 124, 137, 4, 907), (8, 126, 127, 4, 876), (8, 128, 105, 0, 782), (8, 132, 120, 4, 554), (8, 134, 121, 4, 805), (8, 136, 122, 4, 819), (8, 139, 123, 4, 831), (8, 141, 124, 4, 842), (8, 143, 125, 4, 849), (8, 152, 126, 4, 869), (8, 154, 141, 2, 922), (8, 158, 142, 2, 932), (8, 162, 143, 2, 943), (8, 166, 79, 5, 100), (8, 167, 140, 2, 676), (8, 171, 100, 2, 549), (8, 175, 145, 2, 919), (8, 178, 144, 2, 779)]
/-- classes by owner and index: class (100 and on: exceptions), place of the link -/
def nT : List (Nat × Nat × Nat × Nat) := [(0, 9, 1, 112), (0, 21, 2, 114), (0, 33, 5, 116), (1, 9, 3, 151), (6, 7, 0, 106), (6, 30, 4, 285), (6, 63, 101, 660), (6, 106, 100, 565), (6, 145, 102, 692), (8, 10, 6, 98), (8, 15, 100, 557), (8, 21, 101, 655), (8, 27, 102, 682)]
/-- classes: instantiable, initialized; places -/
def iT : List (Nat × Nat) := [(107, 84), (146, 86), (202, 88), (153, 87), (286, 89), (117, 85), (99, 83), (99, 83)]
def kT : List (Nat × Nat × Int32 × Nat) := [(0, 149, 1000000, 402), (8, 7, 15485803, 552), (8, 8, 2147483647, 553)]
def lT : List (Nat × Nat × Int64 × Nat) := [(6, 211, 3803, 786), (6, 227, 31, 790), (8, 146, 256, 866), (8, 148, 4294967296, 867), (8, 150, -1, 868)]
/-- texts: owner, index, place -/
def sT : List (Nat × Nat × String × Nat) := [(6, 233, "an argument is out of range", 606), (6, 209, "there is no saved state", 669), (6, 235, "there is no such caller", 701), (6, 147, "the queue has not so many messages", 733), (6, 237, "there is no such listener", 751), (6, 155, "the memory has not so many bytes", 763), (6, 164, "no such slot is kept", 777), (6, 65, "there are 6 listeners", 812), (6, 74, "a listener has this address", 814), (6, 90, "it is so already", 826), (6, 108, "the bytes are out of range", 856), (6, 239, "the queue has 4 messages", 861), (6, 120, "the queue is empty", 883), (6, 126, "the only message is on the bus", 884), (6, 187, "the text has 100 bytes", 914)]
