def RX0 : String := "TwoWires$Bus"
def TX0 : u_T := fun k => match k with
  | 0 => ("TwoWires$Bus", "callers", "[LTwoWires$Caller;", true)
  | 1 => ("TwoWires$Bus", "callerCount", "I", false)
  | 2 => ("TwoWires$Bus", "listeners", "[LTwoWires$Listener;", true)
  | 3 => ("TwoWires$Bus", "listenerCount", "I", false)
  | 4 => ("TwoWires$Bus", "limit", "I", false)
  | 5 => ("TwoWires$Bus", "slots", "LTwoWires$SlotLog;", true)
  | 6 => ("TwoWires$Bus", "phase", "I", false)
  | 7 => ("TwoWires$Bus", "contenders", "I", false)
  | 8 => ("TwoWires$Bus", "partner", "I", false)
  | 9 => ("TwoWires$Bus", "reading", "Z", false)
  | 10 => ("TwoWires$Bus", "bits", "I", false)
  | 11 => ("TwoWires$Bus", "levels", "I", false)
  | 12 => ("TwoWires$Bus", "bytesDone", "I", false)
  | _ => ("TwoWires$Bus", "holdLeft", "I", false)
def tyX0 : Nat → FieldType := fun k => match k with
  | 0 => .array (.object "TwoWires$Caller")
  | 1 => .int
  | 2 => .array (.object "TwoWires$Listener")
  | 3 => .int
  | 4 => .int
  | 5 => .object "TwoWires$SlotLog"
  | 6 => .int
  | 7 => .int
  | 8 => .int
  | 9 => .boolean
  | 10 => .int
  | 11 => .int
  | 12 => .int
  | _ => .int
theorem nmX0 : ∀ a, a < 14 → ∀ b, b < 14 → a ≠ b → (TX0 a).2.1 ≠ (TX0 b).2.1 := by decide +kernel
theorem tyX0_ok : ∀ k, k < 14 → parseFieldDescriptor (TX0 k).2.2.1 = some (tyX0 k) := by decide +kernel
abbrev cX0_init : ByteArray := prog_2_method_1_code
def yX0_init : MethodName := ⟨RX0, "<init>", "()V"⟩
abbrev cX0_copyFrom : ByteArray := prog_2_method_2_code
def yX0_copyFrom : MethodName := ⟨RX0, "copyFrom", "(LTwoWires$Bus;)V"⟩
abbrev cX0_copyTransfer : ByteArray := prog_2_method_3_code
def yX0_copyTransfer : MethodName := ⟨RX0, "copyTransfer", "(LTwoWires$Bus;)V"⟩
abbrev cX0_callerAt : ByteArray := prog_2_method_4_code
def yX0_callerAt : MethodName := ⟨RX0, "callerAt", "(I)LTwoWires$Caller;"⟩
abbrev cX0_listenerAt : ByteArray := prog_2_method_5_code
def yX0_listenerAt : MethodName := ⟨RX0, "listenerAt", "(I)LTwoWires$Listener;"⟩
abbrev cX0_firstMessage : ByteArray := prog_2_method_6_code
def yX0_firstMessage : MethodName := ⟨RX0, "firstMessage", "(I)LTwoWires$Message;"⟩
abbrev cX0_contends : ByteArray := prog_2_method_7_code
def yX0_contends : MethodName := ⟨RX0, "contends", "(I)Z"⟩
abbrev cX0_listenerWith : ByteArray := prog_2_method_8_code
def yX0_listenerWith : MethodName := ⟨RX0, "listenerWith", "(I)I"⟩
abbrev cX0_answererTo : ByteArray := prog_2_method_9_code
def yX0_answererTo : MethodName := ⟨RX0, "answererTo", "(I)I"⟩
abbrev cX0_placeListener : ByteArray := prog_2_method_10_code
def yX0_placeListener : MethodName := ⟨RX0, "placeListener", "(II)I"⟩
abbrev cX0_listenersOn : ByteArray := prog_2_method_11_code
def yX0_listenersOn : MethodName := ⟨RX0, "listenersOn", "()I"⟩
abbrev cX0_tell : ByteArray := prog_2_method_12_code
def yX0_tell : MethodName := ⟨RX0, "tell", "(I)I"⟩
abbrev cX0_callersWithMessages : ByteArray := prog_2_method_13_code
def yX0_callersWithMessages : MethodName := ⟨RX0, "callersWithMessages", "()I"⟩
abbrev cX0_lowestHeaders : ByteArray := prog_2_method_14_code
def yX0_lowestHeaders : MethodName := ⟨RX0, "lowestHeaders", "()I"⟩
abbrev cX0_slotsAlone : ByteArray := prog_2_method_15_code
def yX0_slotsAlone : MethodName := ⟨RX0, "slotsAlone", "(LTwoWires$Message;)I"⟩
abbrev cX0_passSlots : ByteArray := prog_2_method_16_code
def yX0_passSlots : MethodName := ⟨RX0, "passSlots", "(I)V"⟩
abbrev cX0_runToRest : ByteArray := prog_2_method_17_code
def yX0_runToRest : MethodName := ⟨RX0, "runToRest", "()I"⟩
abbrev cX0_passSlot : ByteArray := prog_2_method_18_code
def yX0_passSlot : MethodName := ⟨RX0, "passSlot", "()V"⟩
abbrev cX0_startTransfer : ByteArray := prog_2_method_19_code
def yX0_startTransfer : MethodName := ⟨RX0, "startTransfer", "()I"⟩
abbrev cX0_expectBits : ByteArray := prog_2_method_20_code
def yX0_expectBits : MethodName := ⟨RX0, "expectBits", "(I)V"⟩
abbrev cX0_sendBits : ByteArray := prog_2_method_21_code
def yX0_sendBits : MethodName := ⟨RX0, "sendBits", "()I"⟩
abbrev cX0_sentBit : ByteArray := prog_2_method_22_code
def yX0_sentBit : MethodName := ⟨RX0, "sentBit", "(LTwoWires$Message;)I"⟩
abbrev cX0_loseBits : ByteArray := prog_2_method_23_code
def yX0_loseBits : MethodName := ⟨RX0, "loseBits", "(I)V"⟩
abbrev cX0_readBit : ByteArray := prog_2_method_24_code
def yX0_readBit : MethodName := ⟨RX0, "readBit", "()I"⟩
abbrev cX0_takeBit : ByteArray := prog_2_method_25_code
def yX0_takeBit : MethodName := ⟨RX0, "takeBit", "(I)I"⟩
abbrev cX0_endBits : ByteArray := prog_2_method_26_code
def yX0_endBits : MethodName := ⟨RX0, "endBits", "()V"⟩
abbrev cX0_receiveLevels : ByteArray := prog_2_method_27_code
def yX0_receiveLevels : MethodName := ⟨RX0, "receiveLevels", "()V"⟩
abbrev cX0_answerHeader : ByteArray := prog_2_method_28_code
def yX0_answerHeader : MethodName := ⟨RX0, "answerHeader", "()I"⟩
abbrev cX0_answerWrite : ByteArray := prog_2_method_29_code
def yX0_answerWrite : MethodName := ⟨RX0, "answerWrite", "()I"⟩
abbrev cX0_answerRead : ByteArray := prog_2_method_30_code
def yX0_answerRead : MethodName := ⟨RX0, "answerRead", "()I"⟩
abbrev cX0_contendersWithMoreBytes : ByteArray := prog_2_method_31_code
def yX0_contendersWithMoreBytes : MethodName := ⟨RX0, "contendersWithMoreBytes", "()I"⟩
abbrev cX0_goOnWith : ByteArray := prog_2_method_32_code
def yX0_goOnWith : MethodName := ⟨RX0, "goOnWith", "(I)V"⟩
abbrev cX0_endMessages : ByteArray := prog_2_method_33_code
def yX0_endMessages : MethodName := ⟨RX0, "endMessages", "(II)V"⟩
abbrev cX0_holdLine : ByteArray := prog_2_method_34_code
def yX0_holdLine : MethodName := ⟨RX0, "holdLine", "()V"⟩
abbrev cX0_holdSlot : ByteArray := prog_2_method_35_code
def yX0_holdSlot : MethodName := ⟨RX0, "holdSlot", "()I"⟩
abbrev cX0_stopTransfer : ByteArray := prog_2_method_36_code
def yX0_stopTransfer : MethodName := ⟨RX0, "stopTransfer", "()V"⟩
def RX1 : String := "TwoWires$Caller"
def TX1 : u_T := fun k => match k with
  | 0 => ("TwoWires$Caller", "queue", "[LTwoWires$Message;", true)
  | 1 => ("TwoWires$Caller", "size", "I", false)
  | 2 => ("TwoWires$Caller", "ended", "[I", true)
  | 3 => ("TwoWires$Caller", "losses", "I", false)
  | 4 => ("TwoWires$Caller", "received", "I", false)
  | _ => ("TwoWires$Caller", "lastByte", "I", false)
def tyX1 : Nat → FieldType := fun k => match k with
  | 0 => .array (.object "TwoWires$Message")
  | 1 => .int
  | 2 => .array .int
  | 3 => .int
  | 4 => .int
  | _ => .int
theorem nmX1 : ∀ a, a < 6 → ∀ b, b < 6 → a ≠ b → (TX1 a).2.1 ≠ (TX1 b).2.1 := by decide +kernel
theorem tyX1_ok : ∀ k, k < 6 → parseFieldDescriptor (TX1 k).2.2.1 = some (tyX1 k) := by decide +kernel
abbrev cX1_init : ByteArray := prog_3_method_1_code
def yX1_init : MethodName := ⟨RX1, "<init>", "()V"⟩
abbrev cX1_copyFrom : ByteArray := prog_3_method_2_code
def yX1_copyFrom : MethodName := ⟨RX1, "copyFrom", "(LTwoWires$Caller;)V"⟩
abbrev cX1_messageAt : ByteArray := prog_3_method_3_code
def yX1_messageAt : MethodName := ⟨RX1, "messageAt", "(I)LTwoWires$Message;"⟩
abbrev cX1_enqueue : ByteArray := prog_3_method_4_code
def yX1_enqueue : MethodName := ⟨RX1, "enqueue", "(ZIIJ)Z"⟩
abbrev cX1_takeBack : ByteArray := prog_3_method_5_code
def yX1_takeBack : MethodName := ⟨RX1, "takeBack", "()I"⟩
abbrev cX1_endFirst : ByteArray := prog_3_method_6_code
def yX1_endFirst : MethodName := ⟨RX1, "endFirst", "(I)V"⟩
abbrev cX1_loseBit : ByteArray := prog_3_method_7_code
def yX1_loseBit : MethodName := ⟨RX1, "loseBit", "(I)V"⟩
abbrev cX1_receiveByte : ByteArray := prog_3_method_8_code
def yX1_receiveByte : MethodName := ⟨RX1, "receiveByte", "(I)V"⟩
abbrev cX1_tell : ByteArray := prog_3_method_9_code
def yX1_tell : MethodName := ⟨RX1, "tell", "(I)I"⟩
def RX2 : String := "TwoWires$Listener"
def TX2 : u_T := fun k => match k with
  | 0 => ("TwoWires$Listener", "address", "I", false)
  | 1 => ("TwoWires$Listener", "hold", "I", false)
  | 2 => ("TwoWires$Listener", "on", "Z", false)
  | 3 => ("TwoWires$Listener", "heldSlots", "I", false)
  | 4 => ("TwoWires$Listener", "bytes", "[I", true)
  | 5 => ("TwoWires$Listener", "size", "I", false)
  | _ => ("TwoWires$Listener", "pointer", "I", false)
def tyX2 : Nat → FieldType := fun k => match k with
  | 0 => .int
  | 1 => .int
  | 2 => .boolean
  | 3 => .int
  | 4 => .array .int
  | 5 => .int
  | _ => .int
theorem nmX2 : ∀ a, a < 7 → ∀ b, b < 7 → a ≠ b → (TX2 a).2.1 ≠ (TX2 b).2.1 := by decide +kernel
theorem tyX2_ok : ∀ k, k < 7 → parseFieldDescriptor (TX2 k).2.2.1 = some (tyX2 k) := by decide +kernel
abbrev cX2_init : ByteArray := prog_4_method_1_code
def yX2_init : MethodName := ⟨RX2, "<init>", "()V"⟩
abbrev cX2_copyFrom : ByteArray := prog_4_method_2_code
def yX2_copyFrom : MethodName := ⟨RX2, "copyFrom", "(LTwoWires$Listener;)V"⟩
abbrev cX2_forget : ByteArray := prog_4_method_3_code
def yX2_forget : MethodName := ⟨RX2, "forget", "()I"⟩
abbrev cX2_byteAt : ByteArray := prog_4_method_4_code
def yX2_byteAt : MethodName := ⟨RX2, "byteAt", "(I)I"⟩
abbrev cX2_storeByte : ByteArray := prog_4_method_5_code
def yX2_storeByte : MethodName := ⟨RX2, "storeByte", "(I)Z"⟩
abbrev cX2_movePointer : ByteArray := prog_4_method_6_code
def yX2_movePointer : MethodName := ⟨RX2, "movePointer", "()V"⟩
abbrev cX2_tell : ByteArray := prog_4_method_7_code
def yX2_tell : MethodName := ⟨RX2, "tell", "(I)I"⟩
def RX3 : String := "TwoWires$Message"
def TX3 : u_T := fun k => match k with
  | 0 => ("TwoWires$Message", "isRead", "Z", false)
  | 1 => ("TwoWires$Message", "address", "I", false)
  | 2 => ("TwoWires$Message", "count", "I", false)
  | 3 => ("TwoWires$Message", "losses", "I", false)
  | _ => ("TwoWires$Message", "bytes", "J", false)
def tyX3 : Nat → FieldType := fun k => match k with
  | 0 => .boolean
  | 1 => .int
  | 2 => .int
  | 3 => .int
  | _ => .long
theorem nmX3 : ∀ a, a < 5 → ∀ b, b < 5 → a ≠ b → (TX3 a).2.1 ≠ (TX3 b).2.1 := by decide +kernel
theorem tyX3_ok : ∀ k, k < 5 → parseFieldDescriptor (TX3 k).2.2.1 = some (tyX3 k) := by decide +kernel
abbrev cX3_init : ByteArray := prog_5_method_1_code
def yX3_init : MethodName := ⟨RX3, "<init>", "()V"⟩
abbrev cX3_copyFrom : ByteArray := prog_5_method_2_code
def yX3_copyFrom : MethodName := ⟨RX3, "copyFrom", "(LTwoWires$Message;)V"⟩
abbrev cX3_header : ByteArray := prog_5_method_3_code
def yX3_header : MethodName := ⟨RX3, "header", "()I"⟩
abbrev cX3_byteAt : ByteArray := prog_5_method_4_code
def yX3_byteAt : MethodName := ⟨RX3, "byteAt", "(I)I"⟩
abbrev cX3_tell : ByteArray := prog_5_method_5_code
def yX3_tell : MethodName := ⟨RX3, "tell", "(I)I"⟩
def RX4 : String := "TwoWires$OrderText"
def TX4 : u_T := fun k => match k with
  | 0 => ("TwoWires$OrderText", "bytesOfText", "[I", true)
  | 1 => ("TwoWires$OrderText", "length", "I", false)
  | 2 => ("TwoWires$OrderText", "at", "I", false)
  | 3 => ("TwoWires$OrderText", "error", "I", false)
  | 4 => ("TwoWires$OrderText", "number", "I", false)
  | 5 => ("TwoWires$OrderText", "kind", "I", false)
  | 6 => ("TwoWires$OrderText", "callerDigit", "I", false)
  | 7 => ("TwoWires$OrderText", "address", "I", false)
  | 8 => ("TwoWires$OrderText", "amount", "I", false)
  | _ => ("TwoWires$OrderText", "bytes", "J", false)
def tyX4 : Nat → FieldType := fun k => match k with
  | 0 => .array .int
  | 1 => .int
  | 2 => .int
  | 3 => .int
  | 4 => .int
  | 5 => .int
  | 6 => .int
  | 7 => .int
  | 8 => .int
  | _ => .long
theorem nmX4 : ∀ a, a < 10 → ∀ b, b < 10 → a ≠ b → (TX4 a).2.1 ≠ (TX4 b).2.1 := by decide +kernel
theorem tyX4_ok : ∀ k, k < 10 → parseFieldDescriptor (TX4 k).2.2.1 = some (tyX4 k) := by decide +kernel
abbrev cX4_init : ByteArray := prog_6_method_1_code
def yX4_init : MethodName := ⟨RX4, "<init>", "()V"⟩
abbrev cX4_add : ByteArray := prog_6_method_2_code
def yX4_add : MethodName := ⟨RX4, "add", "(I)I"⟩
abbrev cX4_rewind : ByteArray := prog_6_method_3_code
def yX4_rewind : MethodName := ⟨RX4, "rewind", "()V"⟩
abbrev cX4_findError : ByteArray := prog_6_method_4_code
def yX4_findError : MethodName := ⟨RX4, "findError", "()I"⟩
abbrev cX4_nextOrder : ByteArray := prog_6_method_5_code
def yX4_nextOrder : MethodName := ⟨RX4, "nextOrder", "()Z"⟩
abbrev cX4_readTarget : ByteArray := prog_6_method_6_code
def yX4_readTarget : MethodName := ⟨RX4, "readTarget", "()Z"⟩
abbrev cX4_readBytes : ByteArray := prog_6_method_7_code
def yX4_readBytes : MethodName := ⟨RX4, "readBytes", "()Z"⟩
abbrev cX4_readCount : ByteArray := prog_6_method_8_code
def yX4_readCount : MethodName := ⟨RX4, "readCount", "()Z"⟩
abbrev cX4_readSlots : ByteArray := prog_6_method_9_code
def yX4_readSlots : MethodName := ⟨RX4, "readSlots", "()Z"⟩
abbrev cX4_readNumber : ByteArray := prog_6_method_10_code
def yX4_readNumber : MethodName := ⟨RX4, "readNumber", "(II)Z"⟩
abbrev cX4_readDigit : ByteArray := prog_6_method_11_code
def yX4_readDigit : MethodName := ⟨RX4, "readDigit", "(II)Z"⟩
abbrev cX4_take : ByteArray := prog_6_method_12_code
def yX4_take : MethodName := ⟨RX4, "take", "(I)Z"⟩
abbrev cX4_takeIfThere : ByteArray := prog_6_method_13_code
def yX4_takeIfThere : MethodName := ⟨RX4, "takeIfThere", "(I)Z"⟩
abbrev cX4_fail : ByteArray := prog_6_method_14_code
def yX4_fail : MethodName := ⟨RX4, "fail", "(I)Z"⟩
abbrev cX4_isDigit : ByteArray := prog_6_method_15_code
def yX4_isDigit : MethodName := ⟨RX4, "isDigit", "(I)Z"⟩
abbrev cX4_nextByte : ByteArray := prog_6_method_16_code
def yX4_nextByte : MethodName := ⟨RX4, "nextByte", "()I"⟩
def RX5 : String := "TwoWires$SlotLog"
def TX5 : u_T := fun k => match k with
  | 0 => ("TwoWires$SlotLog", "passed", "I", false)
  | 1 => ("TwoWires$SlotLog", "notIdle", "I", false)
  | 2 => ("TwoWires$SlotLog", "held", "I", false)
  | 3 => ("TwoWires$SlotLog", "levels", "[I", true)
  | 4 => ("TwoWires$SlotLog", "contenders", "[I", true)
  | _ => ("TwoWires$SlotLog", "kinds", "[I", true)
def tyX5 : Nat → FieldType := fun k => match k with
  | 0 => .int
  | 1 => .int
  | 2 => .int
  | 3 => .array .int
  | 4 => .array .int
  | _ => .array .int
theorem nmX5 : ∀ a, a < 6 → ∀ b, b < 6 → a ≠ b → (TX5 a).2.1 ≠ (TX5 b).2.1 := by decide +kernel
theorem tyX5_ok : ∀ k, k < 6 → parseFieldDescriptor (TX5 k).2.2.1 = some (tyX5 k) := by decide +kernel
abbrev cX5_init : ByteArray := prog_7_method_1_code
def yX5_init : MethodName := ⟨RX5, "<init>", "()V"⟩
abbrev cX5_copyFrom : ByteArray := prog_7_method_2_code
def yX5_copyFrom : MethodName := ⟨RX5, "copyFrom", "(LTwoWires$SlotLog;)V"⟩
abbrev cX5_keptCount : ByteArray := prog_7_method_3_code
def yX5_keptCount : MethodName := ⟨RX5, "keptCount", "()I"⟩
abbrev cX5_keep : ByteArray := prog_7_method_4_code
def yX5_keep : MethodName := ⟨RX5, "keep", "(III)V"⟩
abbrev cX5_tell : ByteArray := prog_7_method_5_code
def yX5_tell : MethodName := ⟨RX5, "tell", "(II)I"⟩
abbrev cX5_lastLevel : ByteArray := prog_7_method_6_code
def yX5_lastLevel : MethodName := ⟨RX5, "lastLevel", "()I"⟩
def RX6 : String := "TwoWires"
def TX6 : u_T := fun k => match k with
  | 0 => ("TwoWires", "bus", "LTwoWires$Bus;", true)
  | 1 => ("TwoWires", "trial", "LTwoWires$Bus;", true)
  | 2 => ("TwoWires", "fresh", "LTwoWires$Bus;", true)
  | 3 => ("TwoWires", "saved", "[LTwoWires$Bus;", true)
  | 4 => ("TwoWires", "savedCount", "I", false)
  | _ => ("TwoWires", "text", "LTwoWires$OrderText;", true)
def tyX6 : Nat → FieldType := fun k => match k with
  | 0 => .object "TwoWires$Bus"
  | 1 => .object "TwoWires$Bus"
  | 2 => .object "TwoWires$Bus"
  | 3 => .array (.object "TwoWires$Bus")
  | 4 => .int
  | _ => .object "TwoWires$OrderText"
theorem nmX6 : ∀ a, a < 6 → ∀ b, b < 6 → a ≠ b → (TX6 a).2.1 ≠ (TX6 b).2.1 := by decide +kernel
theorem tyX6_ok : ∀ k, k < 6 → parseFieldDescriptor (TX6 k).2.2.1 = some (tyX6 k) := by decide +kernel
abbrev cX6_init : ByteArray := prog_1_method_1_code
def yX6_init : MethodName := ⟨RX6, "<init>", "()V"⟩
abbrev cX6_begin : ByteArray := prog_1_method_2_code
def yX6_begin : MethodName := ⟨RX6, "begin", "(I)I"⟩
abbrev cX6_addListener : ByteArray := prog_1_method_3_code
def yX6_addListener : MethodName := ⟨RX6, "addListener", "(II)I"⟩
abbrev cX6_turn : ByteArray := prog_1_method_4_code
def yX6_turn : MethodName := ⟨RX6, "turn", "(IZ)I"⟩
abbrev cX6_empty : ByteArray := prog_1_method_5_code
def yX6_empty : MethodName := ⟨RX6, "empty", "(I)I"⟩
abbrev cX6_setLimit : ByteArray := prog_1_method_6_code
def yX6_setLimit : MethodName := ⟨RX6, "setLimit", "(I)I"⟩
abbrev cX6_write : ByteArray := prog_1_method_7_code
def yX6_write : MethodName := ⟨RX6, "write", "(IIIJ)I"⟩
abbrev cX6_read : ByteArray := prog_1_method_8_code
def yX6_read : MethodName := ⟨RX6, "read", "(III)I"⟩
abbrev cX6_cancel : ByteArray := prog_1_method_9_code
def yX6_cancel : MethodName := ⟨RX6, "cancel", "(I)I"⟩
abbrev cX6_pass : ByteArray := prog_1_method_10_code
def yX6_pass : MethodName := ⟨RX6, "pass", "(I)I"⟩
abbrev cX6_finish : ByteArray := prog_1_method_11_code
def yX6_finish : MethodName := ⟨RX6, "finish", "()I"⟩
abbrev cX6_caller : ByteArray := prog_1_method_12_code
def yX6_caller : MethodName := ⟨RX6, "caller", "(II)I"⟩
abbrev cX6_message : ByteArray := prog_1_method_13_code
def yX6_message : MethodName := ⟨RX6, "message", "(III)I"⟩
abbrev cX6_listener : ByteArray := prog_1_method_14_code
def yX6_listener : MethodName := ⟨RX6, "listener", "(II)I"⟩
abbrev cX6_memory : ByteArray := prog_1_method_15_code
def yX6_memory : MethodName := ⟨RX6, "memory", "(II)I"⟩
abbrev cX6_value : ByteArray := prog_1_method_16_code
def yX6_value : MethodName := ⟨RX6, "value", "(I)I"⟩
abbrev cX6_log : ByteArray := prog_1_method_17_code
def yX6_log : MethodName := ⟨RX6, "log", "(II)I"⟩
abbrev cX6_slotsToFinish : ByteArray := prog_1_method_18_code
def yX6_slotsToFinish : MethodName := ⟨RX6, "slotsToFinish", "()I"⟩
abbrev cX6_alone : ByteArray := prog_1_method_19_code
def yX6_alone : MethodName := ⟨RX6, "alone", "(I)I"⟩
abbrev cX6_winners : ByteArray := prog_1_method_20_code
def yX6_winners : MethodName := ⟨RX6, "winners", "()I"⟩
abbrev cX6_delivers : ByteArray := prog_1_method_21_code
def yX6_delivers : MethodName := ⟨RX6, "delivers", "(I)I"⟩
abbrev cX6_busy : ByteArray := prog_1_method_22_code
def yX6_busy : MethodName := ⟨RX6, "busy", "()D"⟩
abbrev cX6_append : ByteArray := prog_1_method_23_code
def yX6_append : MethodName := ⟨RX6, "append", "(I)I"⟩
abbrev cX6_clearText : ByteArray := prog_1_method_24_code
def yX6_clearText : MethodName := ⟨RX6, "clearText", "()I"⟩
abbrev cX6_carryOut : ByteArray := prog_1_method_25_code
def yX6_carryOut : MethodName := ⟨RX6, "carryOut", "()I"⟩
abbrev cX6_undo : ByteArray := prog_1_method_26_code
def yX6_undo : MethodName := ⟨RX6, "undo", "()I"⟩
abbrev cX6_digest : ByteArray := prog_1_method_27_code
def yX6_digest : MethodName := ⟨RX6, "digest", "()J"⟩
abbrev cX6_mix : ByteArray := prog_1_method_28_code
def yX6_mix : MethodName := ⟨RX6, "mix", "(JI)J"⟩
abbrev cX6_mixCaller : ByteArray := prog_1_method_29_code
def yX6_mixCaller : MethodName := ⟨RX6, "mixCaller", "(JI)J"⟩
abbrev cX6_mixMessage : ByteArray := prog_1_method_30_code
def yX6_mixMessage : MethodName := ⟨RX6, "mixMessage", "(JLTwoWires$Message;)J"⟩
abbrev cX6_mixListener : ByteArray := prog_1_method_31_code
def yX6_mixListener : MethodName := ⟨RX6, "mixListener", "(JLTwoWires$Listener;)J"⟩
abbrev cX6_requireRange : ByteArray := prog_1_method_32_code
def yX6_requireRange : MethodName := ⟨RX6, "requireRange", "(III)V"⟩
abbrev cX6_callerOrThrow : ByteArray := prog_1_method_33_code
def yX6_callerOrThrow : MethodName := ⟨RX6, "callerOrThrow", "(I)LTwoWires$Caller;"⟩
abbrev cX6_listenerOrThrow : ByteArray := prog_1_method_34_code
def yX6_listenerOrThrow : MethodName := ⟨RX6, "listenerOrThrow", "(I)LTwoWires$Listener;"⟩
abbrev cX6_queueMessage : ByteArray := prog_1_method_35_code
def yX6_queueMessage : MethodName := ⟨RX6, "queueMessage", "(LTwoWires$Caller;ZIIJ)I"⟩
abbrev cX6_obeyOrder : ByteArray := prog_1_method_36_code
def yX6_obeyOrder : MethodName := ⟨RX6, "obeyOrder", "()Z"⟩
abbrev cX6_runTrial : ByteArray := prog_1_method_37_code
def yX6_runTrial : MethodName := ⟨RX6, "runTrial", "()I"⟩
abbrev cX6_saveState : ByteArray := prog_1_method_38_code
def yX6_saveState : MethodName := ⟨RX6, "saveState", "()V"⟩
abbrev cX6_dropOldestState : ByteArray := prog_1_method_39_code
def yX6_dropOldestState : MethodName := ⟨RX6, "dropOldestState", "()V"⟩
abbrev cX6_savedAt : ByteArray := prog_1_method_40_code
def yX6_savedAt : MethodName := ⟨RX6, "savedAt", "(I)LTwoWires$Bus;"⟩
abbrev cX6_copyNumbers : ByteArray := prog_1_method_41_code
def yX6_copyNumbers : MethodName := ⟨RX6, "copyNumbers", "([I[I)V"⟩
def RX7 : String := "TwoWiresModel"
def TX7 : u_T := fun k => match k with
  | 0 => ("TwoWiresModel", "now", "[I", true)
  | 1 => ("TwoWiresModel", "kept", "[I", true)
  | 2 => ("TwoWiresModel", "states", "I", false)
  | 3 => ("TwoWiresModel", "aside", "[I", true)
  | 4 => ("TwoWiresModel", "text", "[I", true)
  | 5 => ("TwoWiresModel", "length", "I", false)
  | 6 => ("TwoWiresModel", "thrown", "I", false)
  | 7 => ("TwoWiresModel", "answer", "I", false)
  | 8 => ("TwoWiresModel", "at", "I", false)
  | 9 => ("TwoWiresModel", "fault", "I", false)
  | 10 => ("TwoWiresModel", "letter", "I", false)
  | 11 => ("TwoWiresModel", "who", "I", false)
  | 12 => ("TwoWiresModel", "address", "I", false)
  | 13 => ("TwoWiresModel", "count", "I", false)
  | 14 => ("TwoWiresModel", "bytes", "J", false)
  | _ => ("TwoWiresModel", "hash", "J", false)
def tyX7 : Nat → FieldType := fun k => match k with
  | 0 => .array .int
  | 1 => .array .int
  | 2 => .int
  | 3 => .array .int
  | 4 => .array .int
  | 5 => .int
  | 6 => .int
  | 7 => .int
  | 8 => .int
  | 9 => .int
  | 10 => .int
  | 11 => .int
  | 12 => .int
  | 13 => .int
  | 14 => .long
  | _ => .long
theorem nmX7 : ∀ a, a < 16 → ∀ b, b < 16 → a ≠ b → (TX7 a).2.1 ≠ (TX7 b).2.1 := by decide +kernel
theorem tyX7_ok : ∀ k, k < 16 → parseFieldDescriptor (TX7 k).2.2.1 = some (tyX7 k) := by decide +kernel
abbrev cX7_init : ByteArray := prog_9_method_1_code
def yX7_init : MethodName := ⟨RX7, "<init>", "()V"⟩
abbrev cX7_thrown : ByteArray := prog_9_method_2_code
def yX7_thrown : MethodName := ⟨RX7, "thrown", "()I"⟩
abbrev cX7_fails : ByteArray := prog_9_method_3_code
def yX7_fails : MethodName := ⟨RX7, "fails", "(I)I"⟩
abbrev cX7_well : ByteArray := prog_9_method_4_code
def yX7_well : MethodName := ⟨RX7, "well", "(I)I"⟩
abbrev cX7_in : ByteArray := prog_9_method_5_code
def yX7_in : MethodName := ⟨RX7, "in", "(JJJ)Z"⟩
abbrev cX7_fresh : ByteArray := prog_9_method_6_code
def yX7_fresh : MethodName := ⟨RX7, "fresh", "(I)V"⟩
abbrev cX7_of : ByteArray := prog_9_method_7_code
def yX7_of : MethodName := ⟨RX7, "of", "(II)I"⟩
abbrev cX7_adds : ByteArray := prog_9_method_8_code
def yX7_adds : MethodName := ⟨RX7, "adds", "(III)V"⟩
abbrev cX7_told : ByteArray := prog_9_method_9_code
def yX7_told : MethodName := ⟨RX7, "told", "(III)I"⟩
abbrev cX7_part : ByteArray := prog_9_method_10_code
def yX7_part : MethodName := ⟨RX7, "part", "(II)I"⟩
abbrev cX7_sets : ByteArray := prog_9_method_11_code
def yX7_sets : MethodName := ⟨RX7, "sets", "(III)V"⟩
abbrev cX7_isCaller : ByteArray := prog_9_method_12_code
def yX7_isCaller : MethodName := ⟨RX7, "isCaller", "(I)Z"⟩
abbrev cX7_isListener : ByteArray := prog_9_method_13_code
def yX7_isListener : MethodName := ⟨RX7, "isListener", "(I)Z"⟩
abbrev cX7_isContender : ByteArray := prog_9_method_14_code
def yX7_isContender : MethodName := ⟨RX7, "isContender", "(I)Z"⟩
abbrev cX7_asides : ByteArray := prog_9_method_15_code
def yX7_asides : MethodName := ⟨RX7, "asides", "()V"⟩
abbrev cX7_backs : ByteArray := prog_9_method_16_code
def yX7_backs : MethodName := ⟨RX7, "backs", "()V"⟩
abbrev cX7_saves : ByteArray := prog_9_method_17_code
def yX7_saves : MethodName := ⟨RX7, "saves", "()V"⟩
abbrev cX7_ends : ByteArray := prog_9_method_18_code
def yX7_ends : MethodName := ⟨RX7, "ends", "(I)I"⟩
abbrev cX7_undo : ByteArray := prog_9_method_19_code
def yX7_undo : MethodName := ⟨RX7, "undo", "()I"⟩
abbrev cX7_header : ByteArray := prog_9_method_20_code
def yX7_header : MethodName := ⟨RX7, "header", "(I)I"⟩
abbrev cX7_leaves : ByteArray := prog_9_method_21_code
def yX7_leaves : MethodName := ⟨RX7, "leaves", "(II)V"⟩
abbrev cX7_loses : ByteArray := prog_9_method_22_code
def yX7_loses : MethodName := ⟨RX7, "loses", "(I)V"⟩
abbrev cX7_sent : ByteArray := prog_9_method_23_code
def yX7_sent : MethodName := ⟨RX7, "sent", "(IZ)I"⟩
abbrev cX7_bitOf : ByteArray := prog_9_method_24_code
def yX7_bitOf : MethodName := ⟨RX7, "bitOf", "(Z)I"⟩
abbrev cX7_anyContender : ByteArray := prog_9_method_25_code
def yX7_anyContender : MethodName := ⟨RX7, "anyContender", "()I"⟩
abbrev cX7_allLeave : ByteArray := prog_9_method_26_code
def yX7_allLeave : MethodName := ⟨RX7, "allLeave", "(I)V"⟩
abbrev cX7_finishes : ByteArray := prog_9_method_27_code
def yX7_finishes : MethodName := ⟨RX7, "finishes", "()I"⟩
abbrev cX7_nextByte : ByteArray := prog_9_method_28_code
def yX7_nextByte : MethodName := ⟨RX7, "nextByte", "()V"⟩
abbrev cX7_holds : ByteArray := prog_9_method_29_code
def yX7_holds : MethodName := ⟨RX7, "holds", "()V"⟩
abbrev cX7_withAddress : ByteArray := prog_9_method_30_code
def yX7_withAddress : MethodName := ⟨RX7, "withAddress", "(I)I"⟩
abbrev cX7_headerAnswer : ByteArray := prog_9_method_31_code
def yX7_headerAnswer : MethodName := ⟨RX7, "headerAnswer", "()I"⟩
abbrev cX7_writeAnswer : ByteArray := prog_9_method_32_code
def yX7_writeAnswer : MethodName := ⟨RX7, "writeAnswer", "()I"⟩
abbrev cX7_readBit : ByteArray := prog_9_method_33_code
def yX7_readBit : MethodName := ⟨RX7, "readBit", "()I"⟩
abbrev cX7_readAnswer : ByteArray := prog_9_method_34_code
def yX7_readAnswer : MethodName := ⟨RX7, "readAnswer", "()I"⟩
abbrev cX7_begins : ByteArray := prog_9_method_35_code
def yX7_begins : MethodName := ⟨RX7, "begins", "()I"⟩
abbrev cX7_step : ByteArray := prog_9_method_36_code
def yX7_step : MethodName := ⟨RX7, "step", "()I"⟩
abbrev cX7_kindOf : ByteArray := prog_9_method_37_code
def yX7_kindOf : MethodName := ⟨RX7, "kindOf", "(I)I"⟩
abbrev cX7_slot : ByteArray := prog_9_method_38_code
def yX7_slot : MethodName := ⟨RX7, "slot", "()V"⟩
abbrev cX7_isDone : ByteArray := prog_9_method_39_code
def yX7_isDone : MethodName := ⟨RX7, "isDone", "()Z"⟩
abbrev cX7_finishing : ByteArray := prog_9_method_40_code
def yX7_finishing : MethodName := ⟨RX7, "finishing", "()I"⟩
abbrev cX7_most : ByteArray := prog_9_method_41_code
def yX7_most : MethodName := ⟨RX7, "most", "(I)J"⟩
abbrev cX7_queues : ByteArray := prog_9_method_42_code
def yX7_queues : MethodName := ⟨RX7, "queues", "(IIIIJ)I"⟩
abbrev cX7_passes : ByteArray := prog_9_method_43_code
def yX7_passes : MethodName := ⟨RX7, "passes", "(I)I"⟩
abbrev cX7_begin : ByteArray := prog_9_method_44_code
def yX7_begin : MethodName := ⟨RX7, "begin", "(I)I"⟩
abbrev cX7_addListener : ByteArray := prog_9_method_45_code
def yX7_addListener : MethodName := ⟨RX7, "addListener", "(II)I"⟩
abbrev cX7_on : ByteArray := prog_9_method_46_code
def yX7_on : MethodName := ⟨RX7, "on", "()I"⟩
abbrev cX7_turn : ByteArray := prog_9_method_47_code
def yX7_turn : MethodName := ⟨RX7, "turn", "(IZ)I"⟩
abbrev cX7_empty : ByteArray := prog_9_method_48_code
def yX7_empty : MethodName := ⟨RX7, "empty", "(I)I"⟩
abbrev cX7_setLimit : ByteArray := prog_9_method_49_code
def yX7_setLimit : MethodName := ⟨RX7, "setLimit", "(I)I"⟩
abbrev cX7_write : ByteArray := prog_9_method_50_code
def yX7_write : MethodName := ⟨RX7, "write", "(IIIJ)I"⟩
abbrev cX7_read : ByteArray := prog_9_method_51_code
def yX7_read : MethodName := ⟨RX7, "read", "(III)I"⟩
abbrev cX7_cancel : ByteArray := prog_9_method_52_code
def yX7_cancel : MethodName := ⟨RX7, "cancel", "(I)I"⟩
abbrev cX7_pass : ByteArray := prog_9_method_53_code
def yX7_pass : MethodName := ⟨RX7, "pass", "(I)I"⟩
abbrev cX7_finish : ByteArray := prog_9_method_54_code
def yX7_finish : MethodName := ⟨RX7, "finish", "()I"⟩
abbrev cX7_callerNumber : ByteArray := prog_9_method_55_code
def yX7_callerNumber : MethodName := ⟨RX7, "callerNumber", "(II)I"⟩
abbrev cX7_caller : ByteArray := prog_9_method_56_code
def yX7_caller : MethodName := ⟨RX7, "caller", "(II)I"⟩
abbrev cX7_message : ByteArray := prog_9_method_57_code
def yX7_message : MethodName := ⟨RX7, "message", "(III)I"⟩
abbrev cX7_listener : ByteArray := prog_9_method_58_code
def yX7_listener : MethodName := ⟨RX7, "listener", "(II)I"⟩
abbrev cX7_memory : ByteArray := prog_9_method_59_code
def yX7_memory : MethodName := ⟨RX7, "memory", "(II)I"⟩
abbrev cX7_number : ByteArray := prog_9_method_60_code
def yX7_number : MethodName := ⟨RX7, "number", "(I)I"⟩
abbrev cX7_value : ByteArray := prog_9_method_61_code
def yX7_value : MethodName := ⟨RX7, "value", "(I)I"⟩
abbrev cX7_logged : ByteArray := prog_9_method_62_code
def yX7_logged : MethodName := ⟨RX7, "logged", "(II)I"⟩
abbrev cX7_logs : ByteArray := prog_9_method_63_code
def yX7_logs : MethodName := ⟨RX7, "logs", "()I"⟩
abbrev cX7_log : ByteArray := prog_9_method_64_code
def yX7_log : MethodName := ⟨RX7, "log", "(II)I"⟩
abbrev cX7_wouldTake : ByteArray := prog_9_method_65_code
def yX7_wouldTake : MethodName := ⟨RX7, "wouldTake", "()I"⟩
abbrev cX7_slotsToFinish : ByteArray := prog_9_method_66_code
def yX7_slotsToFinish : MethodName := ⟨RX7, "slotsToFinish", "()I"⟩
abbrev cX7_takesAlone : ByteArray := prog_9_method_67_code
def yX7_takesAlone : MethodName := ⟨RX7, "takesAlone", "(I)I"⟩
abbrev cX7_alone : ByteArray := prog_9_method_68_code
def yX7_alone : MethodName := ⟨RX7, "alone", "(I)I"⟩
abbrev cX7_winners : ByteArray := prog_9_method_69_code
def yX7_winners : MethodName := ⟨RX7, "winners", "()I"⟩
abbrev cX7_delivers : ByteArray := prog_9_method_70_code
def yX7_delivers : MethodName := ⟨RX7, "delivers", "(I)I"⟩
abbrev cX7_busy : ByteArray := prog_9_method_71_code
def yX7_busy : MethodName := ⟨RX7, "busy", "()D"⟩
abbrev cX7_append : ByteArray := prog_9_method_72_code
def yX7_append : MethodName := ⟨RX7, "append", "(I)I"⟩
abbrev cX7_clearText : ByteArray := prog_9_method_73_code
def yX7_clearText : MethodName := ⟨RX7, "clearText", "()I"⟩
abbrev cX7_here : ByteArray := prog_9_method_74_code
def yX7_here : MethodName := ⟨RX7, "here", "()I"⟩
abbrev cX7_wrong : ByteArray := prog_9_method_75_code
def yX7_wrong : MethodName := ⟨RX7, "wrong", "(I)V"⟩
abbrev cX7_sign : ByteArray := prog_9_method_76_code
def yX7_sign : MethodName := ⟨RX7, "sign", "(I)V"⟩
abbrev cX7_digit : ByteArray := prog_9_method_77_code
def yX7_digit : MethodName := ⟨RX7, "digit", "(II)I"⟩
abbrev cX7_isDigit : ByteArray := prog_9_method_78_code
def yX7_isDigit : MethodName := ⟨RX7, "isDigit", "(I)Z"⟩
abbrev cX7_readNumber : ByteArray := prog_9_method_79_code
def yX7_readNumber : MethodName := ⟨RX7, "readNumber", "(II)I"⟩
abbrev cX7_readBytes : ByteArray := prog_9_method_80_code
def yX7_readBytes : MethodName := ⟨RX7, "readBytes", "()V"⟩
abbrev cX7_reads : ByteArray := prog_9_method_81_code
def yX7_reads : MethodName := ⟨RX7, "reads", "()V"⟩
abbrev cX7_faultOf : ByteArray := prog_9_method_82_code
def yX7_faultOf : MethodName := ⟨RX7, "faultOf", "()I"⟩
abbrev cX7_carries : ByteArray := prog_9_method_83_code
def yX7_carries : MethodName := ⟨RX7, "carries", "()I"⟩
abbrev cX7_carryOut : ByteArray := prog_9_method_84_code
def yX7_carryOut : MethodName := ⟨RX7, "carryOut", "()I"⟩
abbrev cX7_hashes : ByteArray := prog_9_method_85_code
def yX7_hashes : MethodName := ⟨RX7, "hashes", "(I)V"⟩
abbrev cX7_digest : ByteArray := prog_9_method_86_code
def yX7_digest : MethodName := ⟨RX7, "digest", "()J"⟩
def RL : String := "TwoWiresLaw"
abbrev cL_begin : ByteArray := method_3_code
def yL_begin : MethodName := ⟨RL, "begin", "(LTwoWires;I[J)I"⟩
abbrev cL_addListener : ByteArray := method_4_code
def yL_addListener : MethodName := ⟨RL, "addListener", "(LTwoWires;II[J)I"⟩
abbrev cL_turn : ByteArray := method_5_code
def yL_turn : MethodName := ⟨RL, "turn", "(LTwoWires;IZ[J)I"⟩
abbrev cL_empty : ByteArray := method_6_code
def yL_empty : MethodName := ⟨RL, "empty", "(LTwoWires;I[J)I"⟩
abbrev cL_setLimit : ByteArray := method_7_code
def yL_setLimit : MethodName := ⟨RL, "setLimit", "(LTwoWires;I[J)I"⟩
abbrev cL_write : ByteArray := method_8_code
def yL_write : MethodName := ⟨RL, "write", "(LTwoWires;IIIJ[J)I"⟩
abbrev cL_read : ByteArray := method_9_code
def yL_read : MethodName := ⟨RL, "read", "(LTwoWires;III[J)I"⟩
abbrev cL_cancel : ByteArray := method_10_code
def yL_cancel : MethodName := ⟨RL, "cancel", "(LTwoWires;I[J)I"⟩
abbrev cL_pass : ByteArray := method_11_code
def yL_pass : MethodName := ⟨RL, "pass", "(LTwoWires;I[J)I"⟩
abbrev cL_caller : ByteArray := method_12_code
def yL_caller : MethodName := ⟨RL, "caller", "(LTwoWires;II[J)I"⟩
abbrev cL_message : ByteArray := method_13_code
def yL_message : MethodName := ⟨RL, "message", "(LTwoWires;III[J)I"⟩
abbrev cL_listener : ByteArray := method_14_code
def yL_listener : MethodName := ⟨RL, "listener", "(LTwoWires;II[J)I"⟩
abbrev cL_memory : ByteArray := method_15_code
def yL_memory : MethodName := ⟨RL, "memory", "(LTwoWires;II[J)I"⟩
abbrev cL_value : ByteArray := method_16_code
def yL_value : MethodName := ⟨RL, "value", "(LTwoWires;I[J)I"⟩
abbrev cL_log : ByteArray := method_17_code
def yL_log : MethodName := ⟨RL, "log", "(LTwoWires;II[J)I"⟩
abbrev cL_alone : ByteArray := method_18_code
def yL_alone : MethodName := ⟨RL, "alone", "(LTwoWires;I[J)I"⟩
abbrev cL_delivers : ByteArray := method_19_code
def yL_delivers : MethodName := ⟨RL, "delivers", "(LTwoWires;I[J)I"⟩
abbrev cL_append : ByteArray := method_20_code
def yL_append : MethodName := ⟨RL, "append", "(LTwoWires;I[J)I"⟩
abbrev cL_undo : ByteArray := method_21_code
def yL_undo : MethodName := ⟨RL, "undo", "(LTwoWires;[J)I"⟩
abbrev cL_law : ByteArray := code
def yL_law : MethodName := ⟨RL, "law", "([I)Z"⟩
abbrev vwCl : List vw_C := [(RX0, TX0, 14), (RX1, TX1, 6), (RX2, TX2, 7), (RX3, TX3, 5), (RX4, TX4, 10), (RX5, TX5, 6), (RX6, TX6, 6), (RX7, TX7, 16)]
abbrev oN : Nat → String := fun k => match k with | 0 => RX0 | 1 => RX1 | 2 => RX2 | 3 => RX3 | 4 => RX4 | 5 => RX5 | 6 => RX6 | 7 => RX7 | _ => RL
def tN_ : Nat → u_T := fun k => match k with | 0 => TX0 | 1 => TX1 | 2 => TX2 | 3 => TX3 | 4 => TX4 | 5 => TX5 | 6 => TX6 | _ => TX7
def nF : Nat → Nat := fun k => match k with | 0 => 14 | 1 => 6 | 2 => 7 | 3 => 5 | 4 => 10 | 5 => 6 | 6 => 6 | _ => 16
/-- the kind of a field: 0 int, 1 boolean, 2 long, 3 a reference -/
def fKs : List (List Nat) := [[3, 0, 3, 0, 0, 3, 0, 0, 0, 1, 0, 0, 0, 0], [3, 0, 3, 0, 0, 0], [0, 0, 1, 0, 3, 0, 0], [1, 0, 0, 0, 2], [3, 0, 0, 0, 0, 0, 0, 0, 0, 2], [0, 0, 0, 3, 3, 3], [3, 3, 3, 3, 0, 3], [3, 3, 0, 3, 3, 0, 0, 0, 0, 0, 0, 0, 0, 0, 2, 2]]
def fK (ci k : Nat) : Nat := (fKs.getD ci []).getD k 0
def eN : Nat → String := fun k => match k with | 0 => "java/lang/IllegalArgumentException" | 1 => "java/lang/IllegalStateException" | _ => "java/lang/IndexOutOfBoundsException"
abbrev MT : Type := MethodName × ByteArray × Nat × Option FieldType × List (Nat × Nat × Nat × Nat) × Nat × Nat × Nat × Nat × Bool × Nat × Nat × Nat × Nat
/-- name, code, locals, answer, handlers, owner, frames, local words, parameters, static, places of the words: code, kind, selects, initialized -/
def mT_0 : List MT := [(yX3_init, cX3_init, 1, none, [], 3, 1, 20, 0, false, 212, 211, 0, 141),
  (yX3_copyFrom, cX3_copyFrom, 2, none, [], 3, 0, 0, 1, false, 430, 429, 5, 141),
  (yX3_header, cX3_header, 1, (some .int), [], 3, 0, 0, 0, false, 502, 501, 20, 141),
  (yX3_byteAt, cX3_byteAt, 2, (some .int), [], 3, 0, 0, 1, false, 506, 505, 21, 141),
  (yX3_tell, cX3_tell, 2, (some .int), [], 3, 1, 21, 1, false, 740, 739, 69, 141),
  (yX1_init, cX1_init, 2, none, [], 1, 2, 40, 0, false, 205, 204, 0, 140),
  (yX1_copyFrom, cX1_copyFrom, 5, none, [], 1, 2, 47, 1, false, 426, 425, 4, 140),
  (yX1_messageAt, cX1_messageAt, 2, (some (.object "TwoWires$Message")), [], 1, 0, 0, 1, false, 474, 473, 13, 140),
  (yX1_enqueue, cX1_enqueue, 7, (some .boolean), [], 1, 0, 0, 4, false, 702, 701, 63, 140),
  (yX1_takeBack, cX1_takeBack, 2, (some .int), [], 1, 1, 21, 0, false, 954, 953, 79, 140),
  (yX1_endFirst, cX1_endFirst, 4, none, [], 1, 0, 0, 1, false, 519, 518, 24, 140),
  (yX1_loseBit, cX1_loseBit, 3, none, [], 1, 1, 23, 1, false, 514, 513, 23, 140),
  (yX1_receiveByte, cX1_receiveByte, 2, none, [], 1, 0, 0, 1, false, 543, 542, 30, 140),
  (yX1_tell, cX1_tell, 2, (some .int), [], 1, 0, 0, 1, false, 731, 730, 68, 140),
  (yX2_init, cX2_init, 1, none, [], 2, 1, 20, 0, false, 261, 260, 0, 142)]
def mT_1 : List MT := [(yX2_copyFrom, cX2_copyFrom, 2, none, [], 2, 2, 47, 1, false, 443, 442, 6, 142),
  (yX2_forget, cX2_forget, 2, (some .int), [], 2, 0, 0, 0, false, 909, 908, 76, 142),
  (yX2_byteAt, cX2_byteAt, 2, (some .int), [], 2, 0, 0, 1, false, 572, 571, 37, 142),
  (yX2_storeByte, cX2_storeByte, 2, (some .boolean), [], 2, 0, 0, 1, false, 592, 591, 42, 142),
  (yX2_movePointer, cX2_movePointer, 1, none, [], 2, 0, 0, 0, false, 539, 538, 29, 142),
  (yX2_tell, cX2_tell, 2, (some .int), [], 2, 0, 0, 1, false, 749, 748, 70, 142),
  (yX5_init, cX5_init, 1, none, [], 5, 1, 20, 0, false, 175, 174, 0, 139),
  (yX5_copyFrom, cX5_copyFrom, 2, none, [], 5, 2, 47, 1, false, 448, 447, 7, 139),
  (yX5_keptCount, cX5_keptCount, 1, (some .int), [], 5, 1, 21, 0, false, 754, 753, 71, 139),
  (yX5_keep, cX5_keep, 5, none, [], 5, 0, 0, 3, false, 604, 603, 45, 139),
  (yX5_tell, cX5_tell, 4, (some .int), [], 5, 0, 0, 2, false, 723, 722, 66, 139),
  (yX5_lastLevel, cX5_lastLevel, 1, (some .int), [], 5, 1, 23, 0, false, 719, 718, 65, 139),
  (yX0_init, cX0_init, 2, none, [], 0, 3, 61, 0, false, 165, 164, 0, 138),
  (yX0_copyFrom, cX0_copyFrom, 5, none, [], 0, 3, 71, 1, false, 422, 421, 3, 138),
  (yX0_copyTransfer, cX0_copyTransfer, 2, none, [], 0, 0, 0, 1, false, 453, 452, 8, 138)]
def mT_2 : List MT := [(yX0_callerAt, cX0_callerAt, 2, (some (.object "TwoWires$Caller")), [], 0, 0, 0, 1, false, 470, 469, 12, 138),
  (yX0_listenerAt, cX0_listenerAt, 2, (some (.object "TwoWires$Listener")), [], 0, 0, 0, 1, false, 535, 534, 28, 138),
  (yX0_firstMessage, cX0_firstMessage, 3, (some (.object "TwoWires$Message")), [], 0, 1, 21, 1, false, 466, 465, 11, 138),
  (yX0_contends, cX0_contends, 2, (some .boolean), [], 0, 0, 0, 1, false, 494, 493, 18, 138),
  (yX0_listenerWith, cX0_listenerWith, 4, (some .int), [], 0, 1, 21, 1, false, 555, 554, 33, 138),
  (yX0_answererTo, cX0_answererTo, 4, (some .int), [], 0, 2, 44, 1, false, 551, 550, 32, 138),
  (yX0_placeListener, cX0_placeListener, 5, (some .int), [], 0, 0, 0, 2, false, 865, 864, 73, 138),
  (yX0_listenersOn, cX0_listenersOn, 4, (some .int), [], 0, 1, 21, 0, false, 898, 897, 75, 138),
  (yX0_tell, cX0_tell, 2, (some .int), [], 0, 2, 43, 1, false, 715, 714, 64, 138),
  (yX0_callersWithMessages, cX0_callersWithMessages, 3, (some .int), [], 0, 2, 43, 0, false, 462, 461, 10, 138),
  (yX0_lowestHeaders, cX0_lowestHeaders, 5, (some .int), [], 0, 2, 43, 0, false, 620, 619, 47, 138),
  (yX0_slotsAlone, cX0_slotsAlone, 5, (some .int), [], 0, 3, 67, 1, false, 1017, 1016, 80, 138),
  (yX0_passSlots, cX0_passSlots, 3, none, [], 0, 5, 112, 1, false, 697, 696, 62, 138),
  (yX0_runToRest, cX0_runToRest, 2, (some .int), [], 0, 5, 112, 0, false, 457, 456, 9, 138),
  (yX0_passSlot, cX0_passSlot, 3, none, [], 0, 4, 90, 0, false, 478, 477, 14, 138)]
def mT_3 : List MT := [(yX0_startTransfer, cX0_startTransfer, 1, (some .int), [], 0, 3, 65, 0, false, 482, 481, 15, 138),
  (yX0_expectBits, cX0_expectBits, 2, none, [], 0, 0, 0, 1, false, 486, 485, 16, 138),
  (yX0_sendBits, cX0_sendBits, 3, (some .int), [], 0, 3, 68, 0, false, 490, 489, 17, 138),
  (yX0_sentBit, cX0_sentBit, 3, (some .int), [], 0, 1, 21, 1, false, 498, 497, 19, 138),
  (yX0_loseBits, cX0_loseBits, 4, none, [], 0, 2, 45, 1, false, 510, 509, 22, 138),
  (yX0_readBit, cX0_readBit, 3, (some .int), [], 0, 1, 21, 0, false, 568, 567, 36, 138),
  (yX0_takeBit, cX0_takeBit, 2, (some .int), [], 0, 3, 64, 1, false, 523, 522, 25, 138),
  (yX0_endBits, cX0_endBits, 1, none, [], 0, 2, 44, 0, false, 527, 526, 26, 138),
  (yX0_receiveLevels, cX0_receiveLevels, 4, none, [], 0, 1, 21, 0, false, 531, 530, 27, 138),
  (yX0_answerHeader, cX0_answerHeader, 1, (some .int), [], 0, 3, 67, 0, false, 547, 546, 31, 138),
  (yX0_answerWrite, cX0_answerWrite, 2, (some .int), [], 0, 3, 68, 0, false, 588, 587, 41, 138),
  (yX0_answerRead, cX0_answerRead, 2, (some .int), [], 0, 3, 68, 0, false, 576, 575, 38, 138),
  (yX0_contendersWithMoreBytes, cX0_contendersWithMoreBytes, 4, (some .int), [], 0, 2, 43, 0, false, 580, 579, 39, 138),
  (yX0_goOnWith, cX0_goOnWith, 2, none, [], 0, 2, 47, 1, false, 584, 583, 40, 138),
  (yX0_endMessages, cX0_endMessages, 5, none, [], 0, 1, 23, 2, false, 559, 558, 34, 138)]
def mT_4 : List MT := [(yX0_holdLine, cX0_holdLine, 2, none, [], 0, 1, 21, 0, false, 564, 563, 35, 138),
  (yX0_holdSlot, cX0_holdSlot, 2, (some .int), [], 0, 1, 21, 0, false, 596, 595, 43, 138),
  (yX0_stopTransfer, cX0_stopTransfer, 1, none, [], 0, 0, 0, 0, false, 600, 599, 44, 138),
  (yX4_init, cX4_init, 1, none, [], 4, 1, 20, 0, false, 345, 344, 0, 143),
  (yX4_add, cX4_add, 2, (some .int), [], 4, 0, 0, 1, false, 1037, 1036, 81, 143),
  (yX4_rewind, cX4_rewind, 1, none, [], 4, 0, 0, 0, false, 640, 639, 49, 143),
  (yX4_findError, cX4_findError, 2, (some .int), [], 4, 5, 102, 0, false, 636, 635, 48, 143),
  (yX4_nextOrder, cX4_nextOrder, 1, (some .boolean), [], 4, 4, 82, 0, false, 644, 643, 50, 143),
  (yX4_readTarget, cX4_readTarget, 1, (some .boolean), [], 4, 3, 62, 0, false, 652, 651, 52, 143),
  (yX4_readBytes, cX4_readBytes, 1, (some .boolean), [], 4, 2, 44, 0, false, 679, 678, 58, 143),
  (yX4_readCount, cX4_readCount, 2, (some .boolean), [], 4, 2, 44, 0, false, 683, 682, 59, 143),
  (yX4_readSlots, cX4_readSlots, 2, (some .boolean), [], 4, 2, 44, 0, false, 687, 686, 60, 143),
  (yX4_readNumber, cX4_readNumber, 4, (some .boolean), [], 4, 1, 21, 2, false, 672, 671, 57, 143),
  (yX4_readDigit, cX4_readDigit, 4, (some .boolean), [], 4, 1, 21, 2, false, 656, 655, 53, 143),
  (yX4_take, cX4_take, 2, (some .boolean), [], 4, 2, 41, 1, false, 664, 663, 55, 143)]
def mT_5 : List MT := [(yX4_takeIfThere, cX4_takeIfThere, 2, (some .boolean), [], 4, 1, 20, 1, false, 668, 667, 56, 143),
  (yX4_fail, cX4_fail, 2, (some .boolean), [], 4, 0, 0, 1, false, 660, 659, 54, 143),
  (yX4_isDigit, cX4_isDigit, 1, (some .boolean), [], 4, 0, 0, 1, true, 675, 674, 0, 143),
  (yX4_nextByte, cX4_nextByte, 1, (some .int), [], 4, 0, 0, 0, false, 648, 647, 51, 143),
  (yX6_init, cX6_init, 2, none, [], 6, 4, 82, 0, false, 157, 156, 0, 137),
  (yX6_begin, cX6_begin, 3, (some .int), [], 6, 7, 116, 1, false, 764, 762, 763, 137),
  (yX6_addListener, cX6_addListener, 3, (some .int), [], 6, 7, 116, 2, false, 843, 841, 842, 137),
  (yX6_turn, cX6_turn, 4, (some .int), [], 6, 7, 116, 2, false, 873, 871, 872, 137),
  (yX6_empty, cX6_empty, 3, (some .int), [], 6, 7, 116, 1, false, 905, 903, 904, 137),
  (yX6_setLimit, cX6_setLimit, 3, (some .int), [], 6, 7, 116, 1, false, 916, 914, 915, 137),
  (yX6_write, cX6_write, 7, (some .int), [], 6, 7, 142, 4, false, 923, 921, 922, 137),
  (yX6_read, cX6_read, 5, (some .int), [], 6, 7, 142, 3, false, 941, 939, 940, 137),
  (yX6_cancel, cX6_cancel, 3, (some .int), [], 6, 7, 116, 1, false, 948, 946, 947, 137),
  (yX6_pass, cX6_pass, 2, (some .int), [], 6, 7, 134, 1, false, 961, 959, 960, 137),
  (yX6_finish, cX6_finish, 1, (some .int), [], 6, 6, 133, 0, false, 406, 404, 405, 137)]
def mT_6 : List MT := [(yX6_caller, cX6_caller, 4, (some .int), [], 6, 7, 112, 2, false, 968, 966, 967, 137),
  (yX6_message, cX6_message, 5, (some .int), [], 6, 7, 112, 3, false, 975, 973, 974, 137),
  (yX6_listener, cX6_listener, 4, (some .int), [], 6, 7, 112, 2, false, 983, 981, 982, 137),
  (yX6_memory, cX6_memory, 4, (some .int), [], 6, 7, 112, 2, false, 990, 988, 989, 137),
  (yX6_value, cX6_value, 2, (some .int), [], 6, 7, 112, 1, false, 998, 996, 997, 137),
  (yX6_log, cX6_log, 3, (some .int), [], 6, 7, 112, 2, false, 1005, 1003, 1004, 137),
  (yX6_slotsToFinish, cX6_slotsToFinish, 1, (some .int), [], 6, 7, 153, 0, false, 608, 606, 607, 137),
  (yX6_alone, cX6_alone, 3, (some .int), [], 6, 7, 112, 1, false, 1013, 1011, 1012, 137),
  (yX6_winners, cX6_winners, 1, (some .int), [], 6, 3, 67, 0, false, 616, 614, 615, 137),
  (yX6_delivers, cX6_delivers, 4, (some .int), [], 6, 7, 153, 1, false, 1025, 1023, 1024, 137),
  (yX6_busy, cX6_busy, 2, (some .double), [], 6, 0, 0, 0, false, 624, 622, 623, 137),
  (yX6_append, cX6_append, 2, (some .int), [], 6, 7, 112, 1, false, 1032, 1030, 1031, 137),
  (yX6_clearText, cX6_clearText, 2, (some .int), [], 6, 0, 0, 0, false, 628, 626, 627, 137),
  (yX6_carryOut, cX6_carryOut, 3, (some .int), [], 6, 7, 155, 0, false, 632, 630, 631, 137),
  (yX6_undo, cX6_undo, 2, (some .int), [], 6, 6, 95, 0, false, 1044, 1042, 1043, 137)]
def mT_7 : List MT := [(yX6_digest, cX6_digest, 5, (some .long), [], 6, 7, 153, 0, false, 706, 704, 705, 137),
  (yX6_mix, cX6_mix, 3, (some .long), [], 6, 0, 0, 2, true, 710, 709, 0, 137),
  (yX6_mixCaller, cX6_mixCaller, 6, (some .long), [], 6, 3, 65, 2, false, 727, 726, 67, 137),
  (yX6_mixMessage, cX6_mixMessage, 4, (some .long), [], 6, 2, 42, 2, true, 736, 735, 0, 137),
  (yX6_mixListener, cX6_mixListener, 4, (some .long), [], 6, 1, 22, 2, true, 745, 744, 0, 137),
  (yX6_requireRange, cX6_requireRange, 3, none, [], 6, 6, 90, 3, true, 767, 766, 0, 137),
  (yX6_callerOrThrow, cX6_callerOrThrow, 3, (some (.object "TwoWires$Caller")), [], 6, 6, 90, 1, false, 927, 926, 77, 137),
  (yX6_listenerOrThrow, cX6_listenerOrThrow, 3, (some (.object "TwoWires$Listener")), [], 6, 6, 90, 1, false, 877, 876, 74, 137),
  (yX6_queueMessage, cX6_queueMessage, 7, (some .int), [], 6, 6, 116, 5, false, 933, 932, 78, 137),
  (yX6_obeyOrder, cX6_obeyOrder, 2, (some .boolean), [], 6, 6, 134, 0, false, 693, 692, 61, 137),
  (yX6_runTrial, cX6_runTrial, 1, (some .int), [], 6, 6, 133, 0, false, 612, 611, 46, 137),
  (yX6_saveState, cX6_saveState, 2, none, [], 6, 4, 95, 0, false, 410, 409, 0, 137),
  (yX6_dropOldestState, cX6_dropOldestState, 3, none, [], 6, 0, 0, 0, false, 414, 413, 1, 137),
  (yX6_savedAt, cX6_savedAt, 2, (some (.object "TwoWires$Bus")), [], 6, 0, 0, 1, false, 418, 417, 2, 137),
  (yX6_copyNumbers, cX6_copyNumbers, 2, none, [], 6, 1, 26, 2, true, 433, 432, 0, 137)]
def mT_8 : List MT := [(yX7_init, cX7_init, 1, none, [], 7, 1, 22, 0, false, 1050, 1049, 0, 144),
  (yX7_thrown, cX7_thrown, 1, (some .int), [], 7, 0, 0, 0, false, 1108, 1106, 1107, 144),
  (yX7_fails, cX7_fails, 2, (some .int), [], 7, 0, 0, 1, false, 1116, 1115, 83, 144),
  (yX7_well, cX7_well, 2, (some .int), [], 7, 0, 0, 1, false, 1120, 1119, 84, 144),
  (yX7_in, cX7_in, 6, (some .boolean), [], 7, 0, 0, 3, true, 1128, 1127, 0, 144),
  (yX7_fresh, cX7_fresh, 3, none, [], 7, 0, 0, 1, false, 1055, 1054, 82, 144),
  (yX7_of, cX7_of, 3, (some .int), [], 7, 0, 0, 2, false, 1198, 1197, 94, 144),
  (yX7_adds, cX7_adds, 4, none, [], 7, 0, 0, 3, false, 1202, 1201, 95, 144),
  (yX7_told, cX7_told, 4, (some .int), [], 7, 0, 0, 3, false, 1222, 1221, 98, 144),
  (yX7_part, cX7_part, 3, (some .int), [], 7, 0, 0, 2, false, 1150, 1149, 88, 144),
  (yX7_sets, cX7_sets, 4, none, [], 7, 0, 0, 3, false, 1154, 1153, 89, 144),
  (yX7_isCaller, cX7_isCaller, 2, (some .boolean), [], 7, 1, 25, 1, false, 1186, 1185, 93, 144),
  (yX7_isListener, cX7_isListener, 2, (some .boolean), [], 7, 1, 25, 1, false, 1162, 1161, 90, 144),
  (yX7_isContender, cX7_isContender, 2, (some .boolean), [], 7, 0, 0, 1, false, 1218, 1217, 97, 144),
  (yX7_asides, cX7_asides, 2, none, [], 7, 0, 0, 0, false, 1132, 1131, 85, 144)]
def mT_9 : List MT := [(yX7_backs, cX7_backs, 2, none, [], 7, 0, 0, 0, false, 1370, 1369, 124, 144),
  (yX7_saves, cX7_saves, 2, none, [], 7, 0, 0, 0, false, 1136, 1135, 86, 144),
  (yX7_ends, cX7_ends, 2, (some .int), [], 7, 1, 21, 1, false, 1206, 1205, 96, 144),
  (yX7_undo, cX7_undo, 2, (some .int), [], 7, 1, 21, 0, false, 1112, 1110, 1111, 144),
  (yX7_header, cX7_header, 2, (some .int), [], 7, 1, 23, 1, false, 1255, 1254, 105, 144),
  (yX7_leaves, cX7_leaves, 5, none, [], 7, 1, 23, 2, false, 1263, 1262, 107, 144),
  (yX7_loses, cX7_loses, 2, none, [], 7, 2, 47, 1, false, 1259, 1258, 106, 144),
  (yX7_sent, cX7_sent, 3, (some .int), [], 7, 2, 44, 2, false, 1251, 1250, 104, 144),
  (yX7_bitOf, cX7_bitOf, 4, (some .int), [], 7, 3, 68, 1, false, 1247, 1246, 103, 144),
  (yX7_anyContender, cX7_anyContender, 1, (some .int), [], 7, 1, 21, 0, false, 1271, 1270, 109, 144),
  (yX7_allLeave, cX7_allLeave, 3, none, [], 7, 2, 47, 1, false, 1275, 1274, 110, 144),
  (yX7_finishes, cX7_finishes, 3, (some .int), [], 7, 2, 47, 0, false, 1291, 1290, 114, 144),
  (yX7_nextByte, cX7_nextByte, 1, none, [], 7, 0, 0, 0, false, 1283, 1282, 112, 144),
  (yX7_holds, cX7_holds, 1, none, [], 7, 1, 22, 0, false, 1279, 1278, 111, 144),
  (yX7_withAddress, cX7_withAddress, 3, (some .int), [], 7, 1, 22, 1, false, 1146, 1145, 87, 144)]
def mT_10 : List MT := [(yX7_headerAnswer, cX7_headerAnswer, 3, (some .int), [], 7, 3, 69, 0, false, 1267, 1266, 108, 144),
  (yX7_writeAnswer, cX7_writeAnswer, 3, (some .int), [], 7, 3, 69, 0, false, 1287, 1286, 113, 144),
  (yX7_readBit, cX7_readBit, 6, (some .int), [], 7, 1, 23, 0, false, 1295, 1294, 115, 144),
  (yX7_readAnswer, cX7_readAnswer, 1, (some .int), [], 7, 3, 69, 0, false, 1299, 1298, 116, 144),
  (yX7_begins, cX7_begins, 3, (some .int), [], 7, 1, 22, 0, false, 1243, 1242, 102, 144),
  (yX7_step, cX7_step, 2, (some .int), [], 7, 4, 91, 0, false, 1239, 1238, 101, 144),
  (yX7_kindOf, cX7_kindOf, 1, (some .int), [], 7, 0, 0, 1, true, 1302, 1301, 0, 144),
  (yX7_slot, cX7_slot, 5, none, [], 7, 5, 112, 0, false, 1235, 1234, 100, 144),
  (yX7_isDone, cX7_isDone, 1, (some .boolean), [], 7, 1, 22, 0, false, 1314, 1313, 118, 144),
  (yX7_finishing, cX7_finishing, 2, (some .int), [], 7, 6, 136, 0, false, 1310, 1309, 117, 144),
  (yX7_most, cX7_most, 1, (some .long), [], 7, 0, 0, 1, true, 1190, 1189, 0, 144),
  (yX7_queues, cX7_queues, 9, (some .int), [], 7, 2, 46, 5, false, 1182, 1181, 92, 144),
  (yX7_passes, cX7_passes, 3, (some .int), [], 7, 6, 136, 1, false, 1230, 1229, 99, 144),
  (yX7_begin, cX7_begin, 3, (some .int), [], 7, 1, 25, 1, false, 1124, 1122, 1123, 144),
  (yX7_addListener, cX7_addListener, 4, (some .int), [], 7, 2, 44, 2, false, 1140, 1138, 1139, 144)]
def mT_11 : List MT := [(yX7_on, cX7_on, 3, (some .int), [], 7, 1, 22, 0, false, 1166, 1165, 91, 144),
  (yX7_turn, cX7_turn, 4, (some .int), [], 7, 2, 46, 2, false, 1158, 1156, 1157, 144),
  (yX7_empty, cX7_empty, 3, (some .int), [], 7, 2, 46, 1, false, 1170, 1168, 1169, 144),
  (yX7_setLimit, cX7_setLimit, 3, (some .int), [], 7, 1, 25, 1, false, 1174, 1172, 1173, 144),
  (yX7_write, cX7_write, 6, (some .int), [], 7, 3, 74, 4, false, 1178, 1176, 1177, 144),
  (yX7_read, cX7_read, 4, (some .int), [], 7, 3, 74, 3, false, 1210, 1208, 1209, 144),
  (yX7_cancel, cX7_cancel, 3, (some .int), [], 7, 2, 46, 1, false, 1214, 1212, 1213, 144),
  (yX7_pass, cX7_pass, 2, (some .int), [], 7, 7, 158, 1, false, 1226, 1224, 1225, 144),
  (yX7_finish, cX7_finish, 1, (some .int), [], 7, 7, 157, 0, false, 1306, 1304, 1305, 144),
  (yX7_callerNumber, cX7_callerNumber, 3, (some .int), [], 7, 1, 22, 2, false, 1323, 1322, 119, 144),
  (yX7_caller, cX7_caller, 3, (some .int), [], 7, 2, 46, 2, false, 1318, 1316, 1317, 144),
  (yX7_message, cX7_message, 4, (some .int), [], 7, 2, 46, 3, false, 1327, 1325, 1326, 144),
  (yX7_listener, cX7_listener, 3, (some .int), [], 7, 2, 46, 2, false, 1332, 1330, 1331, 144),
  (yX7_memory, cX7_memory, 3, (some .int), [], 7, 2, 46, 2, false, 1337, 1335, 1336, 144),
  (yX7_number, cX7_number, 2, (some .int), [], 7, 0, 0, 1, false, 1345, 1344, 120, 144)]
def mT_12 : List MT := [(yX7_value, cX7_value, 2, (some .int), [], 7, 1, 25, 1, false, 1341, 1339, 1340, 144),
  (yX7_logged, cX7_logged, 3, (some .int), [], 7, 0, 0, 2, false, 1358, 1357, 122, 144),
  (yX7_logs, cX7_logs, 1, (some .int), [], 7, 0, 0, 0, false, 1353, 1352, 121, 144),
  (yX7_log, cX7_log, 3, (some .int), [], 7, 1, 25, 2, false, 1349, 1347, 1348, 144),
  (yX7_wouldTake, cX7_wouldTake, 2, (some .int), [], 7, 7, 157, 0, false, 1366, 1365, 123, 144),
  (yX7_slotsToFinish, cX7_slotsToFinish, 1, (some .int), [], 7, 8, 178, 0, false, 1362, 1360, 1361, 144),
  (yX7_takesAlone, cX7_takesAlone, 6, (some .int), [], 7, 2, 44, 1, false, 1378, 1377, 125, 144),
  (yX7_alone, cX7_alone, 2, (some .int), [], 7, 3, 69, 1, false, 1374, 1372, 1373, 144),
  (yX7_winners, cX7_winners, 4, (some .int), [], 7, 2, 44, 0, false, 1382, 1380, 1381, 144),
  (yX7_delivers, cX7_delivers, 4, (some .int), [], 7, 7, 157, 1, false, 1386, 1384, 1385, 144),
  (yX7_busy, cX7_busy, 1, (some .double), [], 7, 0, 0, 0, false, 1390, 1388, 1389, 144),
  (yX7_append, cX7_append, 2, (some .int), [], 7, 1, 25, 1, false, 1394, 1392, 1393, 144),
  (yX7_clearText, cX7_clearText, 2, (some .int), [], 7, 1, 21, 0, false, 1398, 1396, 1397, 144),
  (yX7_here, cX7_here, 1, (some .int), [], 7, 0, 0, 0, false, 1414, 1413, 128, 144),
  (yX7_wrong, cX7_wrong, 2, none, [], 7, 0, 0, 1, false, 1422, 1421, 130, 144)]
def mT_13 : List MT := [(yX7_sign, cX7_sign, 2, none, [], 7, 1, 21, 1, false, 1426, 1425, 131, 144),
  (yX7_digit, cX7_digit, 4, (some .int), [], 7, 1, 25, 2, false, 1418, 1417, 129, 144),
  (yX7_isDigit, cX7_isDigit, 1, (some .boolean), [], 7, 1, 25, 1, true, 1433, 1432, 0, 144),
  (yX7_readNumber, cX7_readNumber, 5, (some .int), [], 7, 2, 45, 2, false, 1430, 1429, 132, 144),
  (yX7_readBytes, cX7_readBytes, 1, none, [], 7, 3, 69, 0, false, 1439, 1438, 133, 144),
  (yX7_reads, cX7_reads, 1, none, [], 7, 4, 89, 0, false, 1410, 1409, 127, 144),
  (yX7_faultOf, cX7_faultOf, 1, (some .int), [], 7, 5, 109, 0, false, 1406, 1405, 126, 144),
  (yX7_carries, cX7_carries, 1, (some .int), [], 7, 7, 158, 0, false, 1444, 1443, 134, 144),
  (yX7_carryOut, cX7_carryOut, 3, (some .int), [], 7, 8, 178, 0, false, 1402, 1400, 1401, 144),
  (yX7_hashes, cX7_hashes, 2, none, [], 7, 0, 0, 1, false, 1453, 1452, 135, 144),
  (yX7_digest, cX7_digest, 5, (some .long), [], 7, 8, 178, 0, false, 1448, 1446, 1447, 144),
  (yL_begin, cL_begin, 4, (some .int), [(0, 9, 12, 13)], 8, 8, 138, 3, true, 759, 758, 0, 136),
  (yL_addListener, cL_addListener, 5, (some .int), [(0, 10, 13, 13), (0, 10, 17, 19)], 8, 8, 138, 4, true, 838, 837, 0, 136),
  (yL_turn, cL_turn, 5, (some .int), [(0, 10, 13, 25), (0, 10, 17, 19)], 8, 8, 139, 4, true, 868, 867, 0, 136),
  (yL_empty, cL_empty, 4, (some .int), [(0, 9, 12, 25)], 8, 8, 138, 3, true, 901, 900, 0, 136)]
def mT_14 : List MT := [(yL_setLimit, cL_setLimit, 4, (some .int), [(0, 9, 12, 13)], 8, 8, 138, 3, true, 912, 911, 0, 136),
  (yL_write, cL_write, 8, (some .int), [(0, 14, 17, 25), (0, 14, 21, 13), (0, 14, 25, 19)], 8, 8, 168, 6, true, 919, 918, 0, 136),
  (yL_read, cL_read, 6, (some .int), [(0, 12, 15, 25), (0, 12, 19, 13), (0, 12, 23, 19)], 8, 8, 166, 5, true, 937, 936, 0, 136),
  (yL_cancel, cL_cancel, 4, (some .int), [(0, 9, 12, 25), (0, 9, 15, 19)], 8, 8, 138, 3, true, 944, 943, 0, 136),
  (yL_pass, cL_pass, 4, (some .int), [(0, 9, 12, 13)], 8, 8, 155, 3, true, 957, 956, 0, 136),
  (yL_caller, cL_caller, 5, (some .int), [(0, 10, 13, 25), (0, 10, 17, 13)], 8, 8, 135, 4, true, 964, 963, 0, 136),
  (yL_message, cL_message, 6, (some .int), [(0, 12, 15, 25), (0, 12, 19, 13)], 8, 8, 136, 5, true, 971, 970, 0, 136),
  (yL_listener, cL_listener, 5, (some .int), [(0, 10, 13, 25), (0, 10, 17, 13)], 8, 8, 135, 4, true, 979, 978, 0, 136),
  (yL_memory, cL_memory, 5, (some .int), [(0, 10, 13, 25)], 8, 8, 135, 4, true, 986, 985, 0, 136),
  (yL_value, cL_value, 4, (some .int), [(0, 9, 12, 13)], 8, 8, 133, 3, true, 994, 993, 0, 136),
  (yL_log, cL_log, 5, (some .int), [(0, 10, 13, 25), (0, 10, 17, 13)], 8, 8, 134, 4, true, 1001, 1000, 0, 136),
  (yL_alone, cL_alone, 4, (some .int), [(0, 9, 12, 25)], 8, 8, 134, 3, true, 1009, 1008, 0, 136),
  (yL_delivers, cL_delivers, 4, (some .int), [(0, 9, 12, 25)], 8, 8, 176, 3, true, 1021, 1020, 0, 136),
  (yL_append, cL_append, 4, (some .int), [(0, 9, 12, 13), (0, 9, 15, 19)], 8, 8, 133, 3, true, 1028, 1027, 0, 136),
  (yL_undo, cL_undo, 3, (some .int), [(0, 8, 11, 19)], 8, 7, 116, 2, true, 1040, 1039, 0, 136)]
def mTabA : List MT := mT_0 ++ (mT_1 ++ (mT_2 ++ (mT_3 ++ (mT_4 ++ (mT_5 ++ (mT_6 ++ (mT_7 ++ (mT_8 ++ (mT_9 ++ (mT_10 ++ (mT_11 ++ (mT_12 ++ (mT_13 ++ (mT_14))))))))))))))
def mT_law : MT := (yL_law, cL_law, 9, (some .boolean), [], 8, 9, 202, 1, false, 0, 0, 0, 136)
def mTab : List MT := mTabA ++ [mT_law]
abbrev m_Message_init : Nat := 0
abbrev m_Message_copyFrom : Nat := 1
abbrev m_Message_header : Nat := 2
abbrev m_Message_byteAt : Nat := 3
abbrev m_Message_tell : Nat := 4
abbrev m_Caller_init : Nat := 5
abbrev m_Caller_copyFrom : Nat := 6
abbrev m_Caller_messageAt : Nat := 7
abbrev m_Caller_enqueue : Nat := 8
abbrev m_Caller_takeBack : Nat := 9
abbrev m_Caller_endFirst : Nat := 10
abbrev m_Caller_loseBit : Nat := 11
abbrev m_Caller_receiveByte : Nat := 12
abbrev m_Caller_tell : Nat := 13
abbrev m_Listener_init : Nat := 14
abbrev m_Listener_copyFrom : Nat := 15
abbrev m_Listener_forget : Nat := 16
abbrev m_Listener_byteAt : Nat := 17
abbrev m_Listener_storeByte : Nat := 18
abbrev m_Listener_movePointer : Nat := 19
abbrev m_Listener_tell : Nat := 20
abbrev m_Log_init : Nat := 21
abbrev m_Log_copyFrom : Nat := 22
abbrev m_Log_keptCount : Nat := 23
abbrev m_Log_keep : Nat := 24
abbrev m_Log_tell : Nat := 25
abbrev m_Log_lastLevel : Nat := 26
abbrev m_Bus_init : Nat := 27
abbrev m_Bus_copyFrom : Nat := 28
abbrev m_Bus_copyTransfer : Nat := 29
abbrev m_Bus_callerAt : Nat := 30
abbrev m_Bus_listenerAt : Nat := 31
abbrev m_Bus_firstMessage : Nat := 32
abbrev m_Bus_contends : Nat := 33
abbrev m_Bus_listenerWith : Nat := 34
abbrev m_Bus_answererTo : Nat := 35
abbrev m_Bus_placeListener : Nat := 36
abbrev m_Bus_listenersOn : Nat := 37
abbrev m_Bus_tell : Nat := 38
abbrev m_Bus_callersWithMessages : Nat := 39
abbrev m_Bus_lowestHeaders : Nat := 40
abbrev m_Bus_slotsAlone : Nat := 41
abbrev m_Bus_passSlots : Nat := 42
abbrev m_Bus_runToRest : Nat := 43
abbrev m_Bus_passSlot : Nat := 44
abbrev m_Bus_startTransfer : Nat := 45
abbrev m_Bus_expectBits : Nat := 46
abbrev m_Bus_sendBits : Nat := 47
abbrev m_Bus_sentBit : Nat := 48
abbrev m_Bus_loseBits : Nat := 49
abbrev m_Bus_readBit : Nat := 50
abbrev m_Bus_takeBit : Nat := 51
abbrev m_Bus_endBits : Nat := 52
abbrev m_Bus_receiveLevels : Nat := 53
abbrev m_Bus_answerHeader : Nat := 54
abbrev m_Bus_answerWrite : Nat := 55
abbrev m_Bus_answerRead : Nat := 56
abbrev m_Bus_contendersWithMoreBytes : Nat := 57
abbrev m_Bus_goOnWith : Nat := 58
abbrev m_Bus_endMessages : Nat := 59
abbrev m_Bus_holdLine : Nat := 60
abbrev m_Bus_holdSlot : Nat := 61
abbrev m_Bus_stopTransfer : Nat := 62
abbrev m_Text_init : Nat := 63
abbrev m_Text_add : Nat := 64
abbrev m_Text_rewind : Nat := 65
abbrev m_Text_findError : Nat := 66
abbrev m_Text_nextOrder : Nat := 67
abbrev m_Text_readTarget : Nat := 68
abbrev m_Text_readBytes : Nat := 69
abbrev m_Text_readCount : Nat := 70
abbrev m_Text_readSlots : Nat := 71
abbrev m_Text_readNumber : Nat := 72
abbrev m_Text_readDigit : Nat := 73
abbrev m_Text_take : Nat := 74
abbrev m_Text_takeIfThere : Nat := 75
abbrev m_Text_fail : Nat := 76
abbrev m_Text_isDigit : Nat := 77
abbrev m_Text_nextByte : Nat := 78
abbrev m_Two_init : Nat := 79
abbrev m_Two_begin : Nat := 80
abbrev m_Two_addListener : Nat := 81
abbrev m_Two_turn : Nat := 82
abbrev m_Two_empty : Nat := 83
abbrev m_Two_setLimit : Nat := 84
abbrev m_Two_write : Nat := 85
abbrev m_Two_read : Nat := 86
abbrev m_Two_cancel : Nat := 87
abbrev m_Two_pass : Nat := 88
abbrev m_Two_finish : Nat := 89
abbrev m_Two_caller : Nat := 90
abbrev m_Two_message : Nat := 91
abbrev m_Two_listener : Nat := 92
abbrev m_Two_memory : Nat := 93
abbrev m_Two_value : Nat := 94
abbrev m_Two_log : Nat := 95
abbrev m_Two_slotsToFinish : Nat := 96
abbrev m_Two_alone : Nat := 97
abbrev m_Two_winners : Nat := 98
abbrev m_Two_delivers : Nat := 99
abbrev m_Two_busy : Nat := 100
abbrev m_Two_append : Nat := 101
abbrev m_Two_clearText : Nat := 102
abbrev m_Two_carryOut : Nat := 103
abbrev m_Two_undo : Nat := 104
abbrev m_Two_digest : Nat := 105
abbrev m_Two_mix : Nat := 106
abbrev m_Two_mixCaller : Nat := 107
abbrev m_Two_mixMessage : Nat := 108
abbrev m_Two_mixListener : Nat := 109
abbrev m_Two_requireRange : Nat := 110
abbrev m_Two_callerOrThrow : Nat := 111
abbrev m_Two_listenerOrThrow : Nat := 112
abbrev m_Two_queueMessage : Nat := 113
abbrev m_Two_obeyOrder : Nat := 114
abbrev m_Two_runTrial : Nat := 115
abbrev m_Two_saveState : Nat := 116
abbrev m_Two_dropOldestState : Nat := 117
abbrev m_Two_savedAt : Nat := 118
abbrev m_Two_copyNumbers : Nat := 119
abbrev m_Model_init : Nat := 120
abbrev m_Model_thrown : Nat := 121
abbrev m_Model_fails : Nat := 122
abbrev m_Model_well : Nat := 123
abbrev m_Model_in : Nat := 124
abbrev m_Model_fresh : Nat := 125
abbrev m_Model_of : Nat := 126
abbrev m_Model_adds : Nat := 127
abbrev m_Model_told : Nat := 128
abbrev m_Model_part : Nat := 129
abbrev m_Model_sets : Nat := 130
abbrev m_Model_isCaller : Nat := 131
abbrev m_Model_isListener : Nat := 132
abbrev m_Model_isContender : Nat := 133
abbrev m_Model_asides : Nat := 134
abbrev m_Model_backs : Nat := 135
abbrev m_Model_saves : Nat := 136
abbrev m_Model_ends : Nat := 137
abbrev m_Model_undo : Nat := 138
abbrev m_Model_header : Nat := 139
abbrev m_Model_leaves : Nat := 140
abbrev m_Model_loses : Nat := 141
abbrev m_Model_sent : Nat := 142
abbrev m_Model_bitOf : Nat := 143
abbrev m_Model_anyContender : Nat := 144
abbrev m_Model_allLeave : Nat := 145
abbrev m_Model_finishes : Nat := 146
abbrev m_Model_nextByte : Nat := 147
abbrev m_Model_holds : Nat := 148
abbrev m_Model_withAddress : Nat := 149
abbrev m_Model_headerAnswer : Nat := 150
abbrev m_Model_writeAnswer : Nat := 151
abbrev m_Model_readBit : Nat := 152
abbrev m_Model_readAnswer : Nat := 153
abbrev m_Model_begins : Nat := 154
abbrev m_Model_step : Nat := 155
abbrev m_Model_kindOf : Nat := 156
abbrev m_Model_slot : Nat := 157
abbrev m_Model_isDone : Nat := 158
abbrev m_Model_finishing : Nat := 159
abbrev m_Model_most : Nat := 160
abbrev m_Model_queues : Nat := 161
abbrev m_Model_passes : Nat := 162
abbrev m_Model_begin : Nat := 163
abbrev m_Model_addListener : Nat := 164
abbrev m_Model_on : Nat := 165
abbrev m_Model_turn : Nat := 166
abbrev m_Model_empty : Nat := 167
abbrev m_Model_setLimit : Nat := 168
abbrev m_Model_write : Nat := 169
abbrev m_Model_read : Nat := 170
abbrev m_Model_cancel : Nat := 171
abbrev m_Model_pass : Nat := 172
abbrev m_Model_finish : Nat := 173
abbrev m_Model_callerNumber : Nat := 174
abbrev m_Model_caller : Nat := 175
abbrev m_Model_message : Nat := 176
abbrev m_Model_listener : Nat := 177
abbrev m_Model_memory : Nat := 178
abbrev m_Model_number : Nat := 179
abbrev m_Model_value : Nat := 180
abbrev m_Model_logged : Nat := 181
abbrev m_Model_logs : Nat := 182
abbrev m_Model_log : Nat := 183
abbrev m_Model_wouldTake : Nat := 184
abbrev m_Model_slotsToFinish : Nat := 185
abbrev m_Model_takesAlone : Nat := 186
abbrev m_Model_alone : Nat := 187
abbrev m_Model_winners : Nat := 188
abbrev m_Model_delivers : Nat := 189
abbrev m_Model_busy : Nat := 190
abbrev m_Model_append : Nat := 191
abbrev m_Model_clearText : Nat := 192
abbrev m_Model_here : Nat := 193
abbrev m_Model_wrong : Nat := 194
abbrev m_Model_sign : Nat := 195
abbrev m_Model_digit : Nat := 196
abbrev m_Model_isDigit : Nat := 197
abbrev m_Model_readNumber : Nat := 198
abbrev m_Model_readBytes : Nat := 199
abbrev m_Model_reads : Nat := 200
abbrev m_Model_faultOf : Nat := 201
abbrev m_Model_carries : Nat := 202
abbrev m_Model_carryOut : Nat := 203
abbrev m_Model_hashes : Nat := 204
abbrev m_Model_digest : Nat := 205
abbrev m_Law_begin : Nat := 206
abbrev m_Law_addListener : Nat := 207
abbrev m_Law_turn : Nat := 208
abbrev m_Law_empty : Nat := 209
abbrev m_Law_setLimit : Nat := 210
abbrev m_Law_write : Nat := 211
abbrev m_Law_read : Nat := 212
abbrev m_Law_cancel : Nat := 213
abbrev m_Law_pass : Nat := 214
abbrev m_Law_caller : Nat := 215
abbrev m_Law_message : Nat := 216
abbrev m_Law_listener : Nat := 217
abbrev m_Law_memory : Nat := 218
abbrev m_Law_value : Nat := 219
abbrev m_Law_log : Nat := 220
abbrev m_Law_alone : Nat := 221
abbrev m_Law_delivers : Nat := 222
abbrev m_Law_append : Nat := 223
abbrev m_Law_undo : Nat := 224
abbrev m_Law_law : Nat := 225
/-- fields by owner and index: class, place, place of the link, a nest link -/
def fT : List (Nat × Nat × Nat × Nat × Nat × Bool) := [(0, 11, 0, 0, 293, false), (0, 17, 0, 1, 294, false), (0, 23, 0, 2, 296, false), (0, 27, 0, 3, 297, false), (0, 30, 0, 4, 299, false), (0, 36, 0, 5, 301, false), (0, 40, 0, 6, 303, false), (0, 43, 0, 7, 304, false), (0, 46, 0, 8, 305, false), (0, 49, 0, 9, 306, false), (0, 53, 0, 10, 307, false), (0, 56, 0, 11, 308, false), (0, 59, 0, 12, 309, false), (0, 62, 0, 13, 310, false), (0, 93, 2, 0, 264, true), (0, 100, 2, 2, 269, true), (0, 103, 2, 1, 266, true), (0, 106, 5, 0, 179, true), (0, 109, 5, 1, 181, true), (0, 112, 5, 2, 184, true), (0, 127, 3, 1, 219, true), (0, 131, 3, 2, 222, true), (0, 134, 3, 0, 216, true), (0, 137, 2, 5, 275, true), (0, 205, 2, 6, 277, true), (0, 240, 2, 3, 271, true), (1, 11, 1, 0, 238, false), (1, 17, 1, 1, 239, false), (1, 21, 1, 2, 241, false), (1, 25, 1, 3, 242, false), (1, 28, 1, 4, 243, false), (1, 31, 1, 5, 244, false), (1, 43, 3, 0, 215, true), (1, 47, 3, 1, 218, true), (1, 50, 3, 2, 221, true), (1, 53, 3, 3, 224, true), (1, 54, 3, 4, 226, true), (2, 9, 2, 0, 263, false), (2, 15, 2, 1, 265, false), (2, 18, 2, 2, 267, false), (2, 22, 2, 3, 270, false), (2, 25, 2, 4, 272, false), (2, 29, 2, 5, 273, false), (2, 32, 2, 6, 276, false), (3, 9, 3, 0, 214, false), (3, 15, 3, 1, 217, false), (3, 19, 3, 2, 220, false), (3, 22, 3, 3, 223, false), (3, 25, 3, 4, 225, false), (4, 9, 4, 0, 347, false), (4, 15, 4, 1, 348, false), (4, 19, 4, 2, 350, false), (4, 22, 4, 3, 351, false), (4, 25, 4, 4, 352, false), (4, 28, 4, 5, 353, false), (4, 31, 4, 6, 355, false), (4, 34, 4, 7, 357, false), (4, 37, 4, 8, 359, false), (4, 40, 4, 9, 361, false), (5, 9, 5, 0, 177, false), (5, 15, 5, 1, 180, false), (5, 18, 5, 2, 183, false), (5, 21, 5, 3, 185, false), (5, 25, 5, 4, 186, false), (5, 28, 5, 5, 187, false), (6, 10, 6, 0, 384, false), (6, 16, 6, 1, 385, false), (6, 19, 6, 2, 386, false), (6, 22, 6, 3, 387, false), (6, 26, 6, 4, 388, false), (6, 33, 6, 5, 389, false), (6, 41, 0, 5, 302, true), (6, 45, 5, 0, 178, true), (6, 57, 0, 1, 295, true), (6, 60, 0, 3, 298, true), (6, 84, 2, 2, 268, true), (6, 99, 0, 4, 300, true), (6, 115, 1, 1, 240, true), (6, 154, 2, 5, 274, true), (6, 181, 5, 1, 182, true), (6, 184, 4, 1, 349, true), (6, 245, 4, 5, 354, true), (6, 248, 4, 8, 360, true), (6, 251, 4, 6, 356, true), (6, 254, 4, 7, 358, true), (6, 257, 4, 9, 362, true), (7, 7, 7, 0, 1056, false), (7, 13, 7, 1, 1057, false), (7, 16, 7, 3, 1059, false), (7, 19, 7, 4, 1060, false), (7, 26, 7, 6, 1062, false), (7, 34, 7, 2, 1058, false), (7, 44, 7, 7, 1063, false), (7, 213, 7, 5, 1061, false), (7, 216, 7, 8, 1064, false), (7, 219, 7, 9, 1065, false), (7, 238, 7, 14, 1070, false), (7, 242, 7, 13, 1069, false), (7, 247, 7, 10, 1066, false), (7, 253, 7, 11, 1067, false), (7, 259, 7, 12, 1068, false), (7, 276, 7, 15, 1071, false)]
/-- calls by owner and index: method, kind, place of the link -/
def cT : List (Nat × Nat × Nat × Nat × Nat) := [(0, 3, 999, 7, 166), (0, 35, 21, 6, 173), (0, 65, 5, 6, 203), (0, 66, 14, 6, 259), (0, 67, 6, 1, 423), (0, 71, 15, 1, 440), (0, 74, 22, 1, 445), (0, 77, 29, 0, 450), (0, 81, 30, 0, 467), (0, 85, 7, 1, 471), (0, 89, 31, 0, 532), (0, 96, 34, 0, 552), (0, 115, 26, 1, 716), (0, 119, 32, 0, 463), (0, 122, 2, 1, 499), (0, 128, 35, 0, 548), (0, 140, 999, 8, 1018), (0, 146, 44, 0, 475), (0, 150, 39, 0, 459), (0, 153, 45, 0, 479), (0, 156, 47, 0, 487), (0, 159, 51, 0, 520), (0, 162, 54, 0, 544), (0, 165, 50, 0, 565), (0, 168, 56, 0, 573), (0, 171, 55, 0, 585), (0, 174, 61, 0, 593), (0, 177, 62, 0, 597), (0, 180, 24, 1, 601), (0, 184, 46, 0, 483), (0, 188, 33, 0, 491), (0, 192, 48, 0, 495), (0, 196, 49, 0, 507), (0, 199, 3, 1, 503), (0, 202, 11, 1, 511), (0, 208, 17, 1, 569), (0, 209, 52, 0, 524), (0, 212, 53, 0, 528), (0, 215, 19, 1, 536), (0, 218, 12, 1, 540), (0, 221, 59, 0, 556), (0, 225, 60, 0, 561), (0, 228, 18, 1, 589), (0, 231, 57, 0, 577), (0, 234, 58, 0, 581), (0, 237, 10, 1, 560), (1, 3, 999, 7, 206), (1, 34, 0, 6, 210), (1, 35, 1, 1, 427), (1, 39, 119, 3, 431), (1, 58, 7, 0, 515), (1, 62, 10, 0, 516), (2, 3, 999, 7, 262), (2, 35, 119, 3, 444), (3, 3, 999, 7, 213), (3, 29, 3, 0, 741), (4, 3, 999, 7, 346), (4, 44, 65, 0, 637), (4, 47, 67, 0, 641), (4, 51, 78, 0, 645), (4, 55, 68, 0, 649), (4, 58, 74, 0, 661), (4, 62, 69, 0, 676), (4, 65, 70, 0, 680), (4, 68, 71, 0, 684), (4, 71, 76, 0, 657), (4, 74, 73, 0, 653), (4, 78, 72, 0, 669), (4, 81, 75, 0, 665), (4, 84, 77, 2, 673), (5, 3, 999, 7, 176), (5, 31, 119, 3, 449), (5, 35, 999, 8, 755), (5, 41, 25, 0, 720), (6, 1, 999, 7, 158), (6, 9, 27, 6, 163), (6, 32, 63, 6, 343), (6, 37, 110, 2, 765), (6, 50, 116, 0, 407), (6, 53, 28, 1, 419), (6, 70, 34, 1, 860), (6, 76, 36, 1, 862), (6, 80, 112, 0, 874), (6, 92, 37, 1, 895), (6, 96, 16, 1, 906), (6, 102, 111, 0, 924), (6, 111, 113, 0, 930), (6, 122, 33, 1, 732), (6, 128, 9, 1, 951), (6, 131, 42, 1, 694), (6, 135, 43, 1, 454), (6, 138, 13, 1, 728), (6, 141, 7, 1, 733), (6, 150, 4, 1, 737), (6, 153, 20, 1, 746), (6, 157, 17, 1, 750), (6, 160, 38, 1, 712), (6, 161, 23, 1, 751), (6, 166, 25, 1, 756), (6, 168, 115, 0, 609), (6, 171, 41, 1, 1014), (6, 175, 40, 1, 617), (6, 178, 30, 1, 698), (6, 189, 64, 1, 1034), (6, 192, 66, 1, 633), (6, 195, 65, 1, 688), (6, 198, 67, 1, 689), (6, 202, 114, 0, 690), (6, 205, 118, 0, 415), (6, 213, 106, 2, 708), (6, 217, 107, 0, 724), (6, 220, 31, 1, 742), (6, 223, 109, 2, 743), (6, 229, 108, 2, 734), (6, 241, 8, 1, 699), (6, 261, 117, 0, 411), (6, 264, 999, 8, 434), (6, 269, 999, 9, 437), (7, 1, 999, 7, 1051), (7, 22, 125, 0, 1052), (7, 30, 124, 2, 1126), (7, 37, 122, 0, 1113), (7, 41, 136, 0, 1133), (7, 47, 123, 0, 1117), (7, 50, 128, 0, 1219), (7, 54, 127, 0, 1199), (7, 58, 140, 0, 1260), (7, 62, 139, 0, 1252), (7, 65, 133, 0, 1215), (7, 69, 142, 0, 1248), (7, 73, 141, 0, 1256), (7, 76, 129, 0, 1147), (7, 80, 147, 0, 1280), (7, 83, 144, 0, 1268), (7, 87, 149, 0, 1143), (7, 90, 145, 0, 1272), (7, 93, 148, 0, 1276), (7, 96, 130, 0, 1151), (7, 99, 146, 0, 1288), (7, 102, 126, 0, 1195), (7, 105, 154, 0, 1240), (7, 108, 143, 0, 1244), (7, 112, 150, 0, 1264), (7, 115, 151, 0, 1284), (7, 118, 152, 0, 1292), (7, 121, 153, 0, 1296), (7, 124, 155, 0, 1236), (7, 127, 156, 2, 1300), (7, 130, 158, 0, 1311), (7, 134, 157, 0, 1232), (7, 145, 131, 0, 1183), (7, 152, 160, 2, 1188), (7, 160, 134, 0, 1129), (7, 165, 132, 0, 1159), (7, 168, 165, 0, 1163), (7, 171, 161, 0, 1179), (7, 175, 137, 0, 1203), (7, 178, 162, 0, 1227), (7, 181, 159, 0, 1307), (7, 186, 174, 0, 1320), (7, 193, 179, 0, 1342), (7, 196, 182, 0, 1350), (7, 201, 181, 0, 1355), (7, 204, 135, 0, 1367), (7, 207, 184, 0, 1363), (7, 210, 186, 0, 1375), (7, 222, 193, 0, 1411), (7, 225, 194, 0, 1419), (7, 232, 197, 2, 1431), (7, 235, 198, 0, 1427), (7, 250, 196, 0, 1415), (7, 256, 195, 0, 1423), (7, 262, 199, 0, 1436), (7, 265, 200, 0, 1407), (7, 268, 201, 0, 1403), (7, 271, 202, 0, 1441), (7, 281, 204, 0, 1450), (8, 7, 80, 0, 761), (8, 15, 81, 0, 840), (8, 21, 82, 0, 870), (8, 27, 83, 0, 902), (8, 30, 84, 0, 913), (8, 33, 85, 0, 920), (8, 37, 86, 0, 938), (8, 41, 87, 0, 945), (8, 44, 88, 0, 958), (8, 47, 90, 0, 965), (8, 50, 91, 0, 972), (8, 53, 92, 0, 980), (8, 56, 93, 0, 987), (8, 59, 94, 0, 995), (8, 62, 95, 0, 1002), (8, 65, 97, 0, 1010), (8, 68, 99, 0, 1022), (8, 71, 101, 0, 1029), (8, 74, 104, 0, 1041), (8, 78, 79, 5, 155), (8, 81, 120, 5, 1048), (8, 82, 206, 4, 757), (8, 87, 163, 0, 1121), (8, 88, 121, 0, 1105), (8, 91, 207, 4, 836), (8, 94, 164, 0, 1137), (8, 95, 208, 4, 866), (8, 98, 166, 0, 1155), (8, 99, 209, 4, 899), (8, 101, 167, 0, 1167), (8, 102, 210, 4, 910), (8, 104, 168, 0, 1171), (8, 107, 211, 4, 917), (8, 110, 169, 0, 1175), (8, 111, 212, 4, 935), (8, 114, 170, 0, 1207), (8, 115, 213, 4, 942), (8, 117, 171, 0, 1211), (8, 118, 214, 4, 955), (8, 120, 172, 0, 1223), (8, 121, 89, 0, 403), (8, 124, 173, 0, 1303), (8, 125, 215, 4, 962), (8, 127, 175, 0, 1315), (8, 128, 216, 4, 969), (8, 130, 176, 0, 1324), (8, 131, 217, 4, 977), (8, 133, 177, 0, 1329), (8, 134, 218, 4, 984), (8, 136, 178, 0, 1334), (8, 137, 219, 4, 992), (8, 139, 180, 0, 1338), (8, 140, 220, 4, 999), (8, 142, 183, 0, 1346), (8, 143, 96, 0, 605), (8, 146, 185, 0, 1359), (8, 147, 221, 4, 1007), (8, 149, 187, 0, 1371), (8, 150, 98, 0, 613), (8, 153, 188, 0, 1379), (8, 154, 222, 4, 1019), (8, 156, 189, 0, 1383), (8, 157, 100, 0, 621), (8, 161, 190, 0, 1387), (8, 162, 223, 4, 1026), (8, 164, 191, 0, 1391), (8, 165, 102, 0, 625), (8, 168, 192, 0, 1395), (8, 169, 103, 0, 629), (8, 172, 203, 0, 1399), (8, 173, 224, 4, 1038), (8, 176, 138, 0, 1109), (8, 177, 105, 0, 703), (8, 181, 205, 0, 1445)]
/-- classes by owner and index: class (100 and on: exceptions), place of the link -/
def nT : List (Nat × Nat × Nat × Nat) := [(0, 9, 1, 167), (0, 21, 2, 169), (0, 33, 5, 171), (1, 9, 3, 207), (6, 7, 0, 161), (6, 30, 4, 341), (6, 63, 101, 844), (6, 106, 100, 768), (6, 145, 102, 878), (8, 8, 6, 153), (8, 13, 100, 760), (8, 19, 101, 839), (8, 25, 102, 869), (8, 79, 7, 1046)]
/-- classes: instantiable, initialized; places -/
def iT : List (Nat × Nat) := [(162, 138), (202, 140), (258, 142), (209, 141), (342, 143), (172, 139), (154, 137), (1047, 144)]
def kT : List (Nat × Nat × Int32 × Nat) := [(0, 149, 1000000, 458)]
def lT : List (Nat × Nat × Int64 × Nat) := [(6, 211, 3803, 707), (6, 227, 31, 711), (7, 158, 3, 1125), (7, 148, 127, 1141), (7, 163, 9, 1142), (7, 150, 4, 1187), (7, 137, 255, 1191), (7, 139, 65535, 1192), (7, 141, 16777215, 1193), (7, 143, 4294967295, 1194), (7, 156, 200, 1231), (7, 184, 8, 1319), (7, 189, 7, 1328), (7, 191, 5, 1333), (7, 199, 2, 1354), (7, 228, 48, 1434), (7, 230, 57, 1435), (7, 245, 256, 1440), (7, 279, 3803, 1449), (7, 274, 31, 1454), (8, 105, 4294967295, 1455)]
/-- texts: owner, index, place -/
def sT : List (Nat × Nat × String × Nat) := [(6, 233, "an argument is out of range", 809), (6, 65, "there are 6 listeners", 853), (6, 74, "a listener has this address", 861), (6, 237, "there is no such listener", 887), (6, 90, "it is so already", 894), (6, 235, "there is no such caller", 928), (6, 108, "the bytes are out of range", 929), (6, 239, "the queue has 4 messages", 934), (6, 120, "the queue is empty", 949), (6, 126, "the only message is on the bus", 950), (6, 147, "the queue has not so many messages", 976), (6, 155, "the memory has not so many bytes", 991), (6, 164, "no such slot is kept", 1006), (6, 187, "the text has 100 bytes", 1033), (6, 209, "there is no saved state", 1045)]
